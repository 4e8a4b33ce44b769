import java.util.ArrayDeque;
import java.util.ArrayList;
import java.util.Arrays;
import java.util.Deque;
import java.util.HashMap;
import java.util.List;
import java.util.Map;

/**
 * A second reading of the document, written for plainness: it makes trees, copies whole states and throws.
 * ModelTest holds the class against it.
 */
final class PlainModel {
    private static final int NONE = -1;
    private static final int NOTHING = -100;
    private static final int[] DX = {0, 0, 1, 0, -1};
    private static final int[] DY = {0, 1, 0, -1, 0};

    /** A SUM or a TEST that is BROKEN. */
    private static final class Broken extends Exception {
        private static final long serialVersionUID = 1L;
    }

    /** A TEXT that can't be, with the FAULT's place. */
    private static final class Fault extends Exception {
        private static final long serialVersionUID = 1L;
        final int place;

        Fault(int place) {
            this.place = place;
        }
    }

    /** A call that is REFUSED. */
    private static final class Refused extends Exception {
        private static final long serialVersionUID = 1L;
        final int reason;

        Refused(int reason) {
            this.reason = reason;
        }
    }

    private interface Sum {
        long of(Map<String, Long> words) throws Broken;
    }

    private interface Test {
        boolean so(Map<String, Long> words) throws Broken;
    }

    private static final class Clause {
        String verb;
        Sum a;
        Sum b;
        int times = 1;
        Test test;
    }

    private static final class Spark {
        int cell;
        int heat;
        int name;
    }

    private static final class Person {
        int cell;
        int reach;
        int knows;
    }

    private static final class State {
        int[] kind = new int[25];
        List<Spark> sparks = new ArrayList<>();
        List<Person> people = new ArrayList<>();
        List<int[]> answers = new ArrayList<>();
        List<List<Clause>> laws = new ArrayList<>();
        int force = NONE;
        int[] terms = {0, 1, 0, 0};

        State copy() {
            State s = new State();
            s.kind = kind.clone();
            for (Spark x : sparks) {
                Spark y = new Spark();
                y.cell = x.cell;
                y.heat = x.heat;
                y.name = x.name;
                s.sparks.add(y);
            }
            for (Person x : people) {
                Person y = new Person();
                y.cell = x.cell;
                y.reach = x.reach;
                y.knows = x.knows;
                s.people.add(y);
            }
            s.answers.addAll(answers);
            s.laws.addAll(laws);
            s.force = force;
            s.terms = terms.clone();
            return s;
        }
    }

    /** One deed with what it takes to undo it. */
    private static final class Done {
        int deed;
        int who;
        int[] cells;
        int[] heats;
        int was;
    }

    private State s = new State();
    private List<Integer> tape = new ArrayList<>();
    private Deque<Done> undo = new ArrayDeque<>();
    private final State[] images = new State[2];
    private State night;
    private int ash;
    private int fault = NONE;
    private int stopped = NONE;
    private int status;
    private final Map<Integer, Integer> refusals = new HashMap<>();

    long ask(String name, int... a) {
        switch (name) {
            case "of": return of(a[0], a[1]);
            case "at": return at(a[0], a[1]);
            case "asks": return asks(a[0], a[1], a[2]);
            case "floor": return cell(a[0]) ? s.kind[a[0]] : NONE;
            case "feed": return feed(a);
            case "end": return end(a[0]);
            case "ash": return ash;
            case "fault": return fault;
            case "stopped": return stopped;
            case "where": return where(a[0], a[1]);
            case "first": return first(a[0], a[1]);
            case "chain": return chain(a[0], a[1]);
            case "forget": {
                int n = s.answers.size();
                s.answers.clear();
                return n;
            }
            case "which": return bits(which());
            case "let": return let(a[0]);
            case "alike": return alike(a[0]);
            case "anew": return anew(a[0]);
            case "guard": return guard(a[0], a[1]);
            case "lessons": return lessons(a[0]);
            case "drift": return drift(a[0], a[1], a[2]);
            case "sodden": return sodden(a[0], a[1]);
            case "hot": return hot(a[0], a[1]);
            case "drawn": return drawn(a[0], a[1]);
            case "count": return count(a[0]);
            case "status": return status;
            default:
        }
        try {
            long answer = refusable(name, a);
            status = 0;
            return answer;
        } catch (Refused r) {
            status = r.reason;
            refusals.merge(r.reason, 1, Integer::sum);
            return r.reason;
        }
    }

    private long refusable(String name, int[] a) throws Refused {
        switch (name) {
            case "spark": {
                unless(cell(a[0]) && in(a[1], 1, 9) && in(a[2], 0, 99), -1);
                unless(s.kind[a[0]] != 3, -3);
                unless(s.sparks.size() < 6, -5);
                Spark x = new Spark();
                x.cell = a[0];
                x.heat = a[1];
                x.name = a[2];
                s.sparks.add(x);
                undo.clear();
                return s.sparks.size() - 1;
            }
            case "person": {
                unless(cell(a[0]) && in(a[1], 0, 8), -1);
                unless(s.kind[a[0]] != 3, -3);
                unless(s.people.size() < 5, -5);
                Person x = new Person();
                x.cell = a[0];
                x.reach = a[1];
                s.people.add(x);
                undo.clear();
                return s.people.size() - 1;
            }
            case "knows": {
                unless(in(a[1], 0, 63), -1);
                unless(in(a[0], 0, s.people.size() - 1), -2);
                int was = s.people.get(a[0]).knows;
                s.people.get(a[0]).knows = a[1];
                return was;
            }
            case "terms": {
                unless(in(a[0], 0, 3), -1);
                unless(in(a[1], 0, new int[] {999, 2, 9, 24}[a[0]]), -1);
                int was = s.terms[a[0]];
                s.terms[a[0]] = a[1];
                undo.clear();
                return was;
            }
            case "row": return row();
            case "law": {
                List<Integer> text = tape;
                tape = new ArrayList<>();
                unless(s.laws.size() < 6, -5);
                s.laws.add(read(text, false));
                return s.laws.size() - 1;
            }
            case "orders": return orders();
            case "force": {
                unless(in(a[0], NONE, s.laws.size() - 1), -2);
                int was = s.force;
                s.force = a[0];
                return was;
            }
            case "call": return call(s, undo, a[0], a[1]);
            case "wet": return wet(a[0]);
            case "walk": return walk(s, undo, a[0], a[1]);
            case "pass": return pass();
            case "undo": return undo();
            case "answer":
                unless(in(a[1], 0, 1), -1);
                unless(in(a[0], 0, s.people.size() - 1), -2);
                unless(s.answers.size() < 6, -5);
                s.answers.add(new int[] {a[0], a[1]});
                return s.answers.size();
            case "nights": return nights(a[0], a[1]);
            case "image":
                unless(in(a[0], 0, 1), -1);
                images[a[0]] = s.copy();
                return 0;
            case "back":
                unless(in(a[0], 0, 1), -1);
                unless(images[a[0]] != null, -2);
                s = images[a[0]].copy();
                undo.clear();
                return 0;
            default:
                throw new IllegalArgumentException(name);
        }
    }

    private static void unless(boolean fine, int reason) throws Refused {
        if (!fine) {
            throw new Refused(reason);
        }
    }

    private static boolean in(int v, int low, int high) {
        return low <= v && v <= high;
    }

    private static boolean cell(int c) {
        return in(c, 0, 24);
    }

    private static int far(int a, int b) {
        return Math.abs(a % 5 - b % 5) + Math.abs(a / 5 - b / 5);
    }

    private static int step(int c, int way) {
        int x = c % 5 + DX[way];
        int y = c / 5 + DY[way];
        return in(x, 0, 4) && in(y, 0, 4) ? 5 * y + x : NONE;
    }

    private static long bits(List<Integer> of) {
        long b = 0;
        for (int i : of) {
            b += 1L << i;
        }
        return b;
    }

    // ---- laws ----

    private Map<String, Long> words(State st, int k, int cell, int person) {
        Map<String, Long> w = new HashMap<>();
        Spark x = st.sparks.get(k);
        w.put("spark", (long) k);
        w.put("heat", (long) x.heat);
        w.put("name", (long) x.name);
        w.put("x", (long) (cell % 5));
        w.put("y", (long) (cell / 5));
        w.put("kind", (long) st.kind[cell]);
        w.put("far", (long) far(cell, st.terms[3]));
        w.put("person", (long) person);
        w.put("minute", (long) st.terms[0]);
        w.put("mood", (long) st.terms[2]);
        return w;
    }

    /** What each CLAUSE with that verb that HOLDS tells, first to last. */
    private List<Long> holding(State st, String verb, Map<String, Long> w) {
        List<Long> all = new ArrayList<>();
        if (st.force != NONE) {
            for (Clause c : st.laws.get(st.force)) {
                if (c.verb.equals(verb)) {
                    try {
                        if (c.test == null || c.test.so(w)) {
                            all.add(c.a == null ? 1L : c.a.of(w));
                        }
                    } catch (Broken b) {
                        continue;
                    }
                }
            }
        }
        return all;
    }

    private int way(State st, int k) {
        List<Long> all = holding(st, "goes", words(st, k, st.sparks.get(k).cell, NONE));
        if (all.isEmpty()) {
            return (k + st.terms[0]) % 5;
        }
        long v = all.get(all.size() - 1);
        return v < 0 ? 0 : v > 4 ? 4 : (int) v;
    }

    private int burn(State st, int k) {
        int c = st.sparks.get(k).cell;
        List<Long> all = holding(st, "burns", words(st, k, c, NONE));
        if (all.isEmpty()) {
            return new int[] {0, -3, 1, 0}[st.kind[c]];
        }
        long v = all.get(all.size() - 1);
        return v < -3 ? -3 : v > 3 ? 3 : (int) v;
    }

    private boolean shuns(State st, int k, int c, int p) {
        return !holding(st, "shuns", words(st, k, c, p)).isEmpty();
    }

    private boolean would(State st, int k, int c, int p) {
        Person who = st.people.get(p);
        boolean knows = (who.knows & 1 << k) != 0;
        return c != NONE && knows && far(c, who.cell) <= who.reach && !shuns(st, k, c, p);
    }

    private void minute(State st) {
        int n = st.sparks.size();
        int[] to = new int[n];
        for (int k = 0; k < n; k++) {
            int c = st.sparks.get(k).cell;
            to[k] = c;
            if (c != NONE) {
                int d = step(c, way(st, k));
                if (d != NONE && st.kind[d] != 3 && holding(st, "bars", words(st, k, d, NONE)).isEmpty()) {
                    to[k] = d;
                }
            }
        }
        for (int k = 0; k < n; k++) {
            st.sparks.get(k).cell = to[k];
        }
        int[] by = new int[n];
        for (int k = 0; k < n; k++) {
            by[k] = to[k] == NONE ? 0 : burn(st, k);
        }
        for (int k = 0; k < n; k++) {
            Spark x = st.sparks.get(k);
            if (x.cell != NONE) {
                x.heat = Math.max(0, Math.min(9, x.heat + by[k]));
                if (x.heat == 0) {
                    x.cell = NONE;
                }
            }
        }
        st.terms[0]++;
    }

    // ---- deeds ----

    private static void push(Deque<Done> on, Done d) {
        if (on != null) {
            on.addLast(d);
            if (on.size() > 16) {
                on.removeFirst();
            }
        }
    }

    private int call(State st, Deque<Done> on, int k, int p) throws Refused {
        unless(in(k, 0, st.sparks.size() - 1) && in(p, 0, st.people.size() - 1), -2);
        Spark x = st.sparks.get(k);
        unless(would(st, k, x.cell, p), -3);
        Done d = new Done();
        d.deed = 0;
        d.who = k;
        d.cells = new int[] {x.cell};
        d.heats = new int[] {x.heat};
        push(on, d);
        int target = st.people.get(p).cell;
        int f = far(x.cell, target);
        x.cell = target;
        if (target == st.terms[3]) {
            x.cell = NONE;
            x.heat = 0;
        }
        return f;
    }

    private int wet(int c) throws Refused {
        unless(cell(c), -1);
        unless(s.kind[c] == 0 || s.kind[c] == 2, -3);
        Done d = new Done();
        d.deed = 1;
        d.who = c;
        d.was = s.kind[c];
        push(undo, d);
        s.kind[c] = 1;
        return d.was;
    }

    private static int walk(State st, Deque<Done> on, int p, int w) throws Refused {
        unless(in(w, 1, 4), -1);
        unless(in(p, 0, st.people.size() - 1), -2);
        int to = step(st.people.get(p).cell, w);
        unless(to != NONE && st.kind[to] != 3, -3);
        Done d = new Done();
        d.deed = 2;
        d.who = p;
        d.was = st.people.get(p).cell;
        push(on, d);
        st.people.get(p).cell = to;
        return to;
    }

    private int pass() throws Refused {
        unless(s.terms[0] < 999, -3);
        Done d = new Done();
        d.deed = 3;
        d.cells = s.sparks.stream().mapToInt(x -> x.cell).toArray();
        d.heats = s.sparks.stream().mapToInt(x -> x.heat).toArray();
        push(undo, d);
        minute(s);
        return s.terms[0];
    }

    private int undo() throws Refused {
        unless(!undo.isEmpty(), -3);
        Done d = undo.removeLast();
        switch (d.deed) {
            case 0:
                s.sparks.get(d.who).cell = d.cells[0];
                s.sparks.get(d.who).heat = d.heats[0];
                break;
            case 1:
                s.kind[d.who] = d.was;
                break;
            case 2:
                s.people.get(d.who).cell = d.was;
                break;
            default:
                for (int i = 0; i < d.cells.length; i++) {
                    s.sparks.get(i).cell = d.cells[i];
                    s.sparks.get(i).heat = d.heats[i];
                }
                s.terms[0]--;
        }
        return d.deed;
    }

    private int row() throws Refused {
        unless(!tape.isEmpty(), -6);
        int told = 0;
        ash = 0;
        for (int i = 0; i < tape.size(); i += 2) {
            boolean fine = i + 1 < tape.size() && cell(tape.get(i)) && in(tape.get(i + 1), 0, 3);
            if (fine) {
                s.kind[tape.get(i)] = tape.get(i + 1);
                told++;
            } else {
                ash++;
            }
        }
        tape.clear();
        undo.clear();
        return told;
    }

    private int orders() throws Refused {
        List<Integer> text = tape;
        tape = new ArrayList<>();
        stopped = NONE;
        List<Clause> clauses = read(text, true);
        State before = s.copy();
        Deque<Done> undoBefore = new ArrayDeque<>(undo);
        int done = 0;
        int latest = -1;
        for (int i = 0; i < clauses.size(); i++) {
            Clause c = clauses.get(i);
            for (int t = 0; t < c.times; t++) {
                Map<String, Long> w = orderWords(done, latest);
                boolean so;
                try {
                    so = c.test == null || c.test.so(w);
                } catch (Broken b) {
                    so = false;
                }
                if (!so) {
                    continue;
                }
                try {
                    int a = c.a == null ? 0 : (int) c.a.of(w);
                    int b = c.b == null ? 0 : (int) c.b.of(w);
                    switch (c.verb) {
                        case "call":
                            latest = call(s, undo, a, b);
                            break;
                        case "wet":
                            wet(a);
                            break;
                        case "walk":
                            walk(s, undo, a, b);
                            break;
                        default:
                            pass();
                    }
                    done++;
                } catch (Broken | Refused e) {
                    s = before;
                    undo = undoBefore;
                    stopped = i;
                    throw new Refused(-3);
                }
            }
        }
        return done;
    }

    private Map<String, Long> orderWords(int done, int latest) {
        Map<String, Long> w = new HashMap<>();
        w.put("minute", (long) s.terms[0]);
        w.put("done", (long) done);
        w.put("latest", (long) latest);
        w.put("loose", s.sparks.stream().filter(x -> x.cell != NONE).count());
        for (int i = 0; i < 6; i++) {
            boolean there = i < s.sparks.size();
            w.put("heat" + i, there ? s.sparks.get(i).heat : -1L);
            w.put("cell" + i, there ? s.sparks.get(i).cell : -1L);
        }
        return w;
    }

    // ---- questions ----

    private int of(int k, int what) {
        if (!in(k, 0, s.sparks.size() - 1) || !in(what, 0, 5)) {
            return NOTHING;
        }
        Spark x = s.sparks.get(k);
        if (what == 5) {
            int b = 0;
            for (int p = 0; p < s.people.size(); p++) {
                b += (s.people.get(p).knows >> k) % 2 << p;
            }
            return b;
        }
        if (what >= 3 && x.cell == NONE) {
            return NOTHING;
        }
        return what == 0 ? x.cell : what == 1 ? x.heat : what == 2 ? x.name : what == 3 ? way(s, k) : burn(s, k);
    }

    private int at(int p, int what) {
        if (!in(p, 0, s.people.size() - 1) || !in(what, 0, 2)) {
            return NONE;
        }
        Person x = s.people.get(p);
        return what == 0 ? x.cell : what == 1 ? x.reach : x.knows;
    }

    private int asks(int k, int p, int what) {
        boolean there = in(k, 0, s.sparks.size() - 1) && in(p, 0, s.people.size() - 1) && in(what, 0, 2);
        if (!there || s.sparks.get(k).cell == NONE) {
            return NONE;
        }
        int c = s.sparks.get(k).cell;
        if (what == 0) {
            return far(c, s.people.get(p).cell);
        }
        return (what == 1 ? shuns(s, k, c, p) : would(s, k, c, p)) ? 1 : 0;
    }

    private int feed(int[] a) {
        if (tape.size() > 380) {
            return NONE;
        }
        for (int v : a) {
            long u = v & 0xffffffffL;
            tape.add((int) (u / 16777216));
            tape.add((int) (u / 65536 % 256));
            tape.add((int) (u / 256 % 256));
            tape.add((int) (u % 256));
        }
        return tape.size();
    }

    private int end(int n) {
        if (!in(n, 0, tape.size())) {
            return NONE;
        }
        tape = new ArrayList<>(tape.subList(0, n));
        return n;
    }

    private int where(int k, int n) {
        if (!in(k, 0, s.sparks.size() - 1) || !in(n, 0, 60)) {
            return NOTHING;
        }
        State st = s.copy();
        for (int i = 0; i < n; i++) {
            minute(st);
        }
        return st.sparks.get(k).cell;
    }

    private int first(int c, int what) {
        if (!cell(c) || !in(what, 0, 1)) {
            return NONE;
        }
        State st = s.copy();
        for (int i = 0; i <= 60; i++) {
            for (int k = 0; k < st.sparks.size(); k++) {
                if (st.sparks.get(k).cell == c) {
                    return what == 0 ? i : k;
                }
            }
            minute(st);
        }
        return NONE;
    }

    private int chain(int k, int i) {
        if (!in(k, 0, s.sparks.size() - 1) || s.sparks.get(k).cell == NONE) {
            return NONE;
        }
        // rows of PEOPLE, the shorter ones first, rising among those as long
        Deque<List<Integer>> open = new ArrayDeque<>();
        open.add(new ArrayList<>());
        while (!open.isEmpty()) {
            List<Integer> row = open.removeFirst();
            int at = row.isEmpty() ? s.sparks.get(k).cell : s.people.get(row.get(row.size() - 1)).cell;
            for (int p = 0; p < s.people.size(); p++) {
                if (would(s, k, at, p)) {
                    List<Integer> longer = new ArrayList<>(row);
                    longer.add(p);
                    if (s.people.get(p).cell == s.terms[3]) {
                        return i == NONE ? longer.size() : in(i, 0, longer.size() - 1) ? longer.get(i) : NONE;
                    }
                    if (!row.contains(p)) {
                        open.addLast(longer);
                    }
                }
            }
        }
        return NONE;
    }

    private List<Integer> which() {
        List<Integer> left = new ArrayList<>();
        for (int k = 0; k < s.sparks.size(); k++) {
            boolean can = true;
            for (int[] a : s.answers) {
                boolean knows = (s.people.get(a[0]).knows & 1 << k) != 0;
                can &= knows == (a[1] == 1);
            }
            if (can) {
                left.add(k);
            }
        }
        return left;
    }

    private int let(int what) {
        List<Integer> left = which();
        if (left.isEmpty() || s.people.isEmpty() || !in(what, 0, 1)) {
            return NONE;
        }
        int[] worst = new int[s.people.size()];
        for (int p = 0; p < worst.length; p++) {
            int knows = s.people.get(p).knows;
            int known = (int) left.stream().filter(k -> (knows & 1 << k) != 0).count();
            worst[p] = Math.max(known, left.size() - known);
        }
        int least = Arrays.stream(worst).min().getAsInt();
        for (int p = 0; p < worst.length; p++) {
            if (worst[p] == least) {
                return what == 0 ? p : least;
            }
        }
        return NONE;
    }

    private static boolean alikeNames(int a, int b) {
        String x = String.format("%02d", a);
        String y = String.format("%02d", b);
        return x.charAt(0) == y.charAt(0) || x.charAt(1) == y.charAt(1);
    }

    private List<int[]> twos() {
        List<int[]> all = new ArrayList<>();
        for (int a = 0; a < s.sparks.size(); a++) {
            for (int b = a + 1; b < s.sparks.size(); b++) {
                if (alikeNames(s.sparks.get(a).name, s.sparks.get(b).name)) {
                    all.add(new int[] {a, b});
                }
            }
        }
        return all;
    }

    private int alike(int i) {
        List<int[]> all = twos();
        if (i == NONE) {
            return all.size();
        }
        return in(i, 0, all.size() - 1) ? all.get(i)[0] * 10 + all.get(i)[1] : NONE;
    }

    private int anew(int what) {
        if (!in(what, 0, 1)) {
            return NONE;
        }
        for (int size = 0; ; size++) {
            for (int set = 0; set < 64; set++) {
                final int chosen = set;
                if (Integer.bitCount(set) == size
                        && twos().stream().allMatch(t -> (chosen & (1 << t[0] | 1 << t[1])) != 0)) {
                    return what == 0 ? size : set;
                }
            }
        }
    }

    private int guard(int k, int what) {
        if (!in(k, 0, 4) || !in(what, 0, 1)) {
            return NONE;
        }
        for (int size = 0; size <= s.people.size(); size++) {
            for (int set = 0; set < 1 << s.people.size(); set++) {
                if (Integer.bitCount(set) == size && guards(set, k)) {
                    return what == 0 ? size : set;
                }
            }
        }
        return NONE;
    }

    private boolean guards(int set, int k) {
        for (int i = 0; i < s.sparks.size(); i++) {
            if (s.sparks.get(i).cell != NONE) {
                int knowing = 0;
                for (int p = 0; p < s.people.size(); p++) {
                    if ((set & 1 << p) != 0 && (s.people.get(p).knows & 1 << i) != 0) {
                        knowing++;
                    }
                }
                if (knowing < k + 1) {
                    return false;
                }
            }
        }
        return true;
    }

    private int lessons(int k) {
        if (!in(k, 0, 5) || k > s.people.size()) {
            return NONE;
        }
        int n = 0;
        for (int i = 0; i < s.sparks.size(); i++) {
            final int bit = 1 << i;
            int known = (int) s.people.stream().filter(p -> (p.knows & bit) != 0).count();
            if (known < k) {
                n += k - known;
            }
        }
        return n;
    }

    private long[] drifted(int k, int n) {
        long[] now = new long[25];
        now[s.sparks.get(k).cell] = 1_000_000_000_000L;
        for (int i = 0; i < n; i++) {
            long[] next = now.clone();
            for (int c = 0; c < 25; c++) {
                long share = Math.floorDiv(now[c] * s.terms[1], 10L);
                for (int w = 1; w <= 4; w++) {
                    int to = step(c, w);
                    if (to != NONE && s.kind[to] != 3) {
                        next[to] += share;
                        next[c] -= share;
                    }
                }
            }
            now = next;
        }
        return now;
    }

    private boolean loose(int k) {
        return in(k, 0, s.sparks.size() - 1) && s.sparks.get(k).cell != NONE;
    }

    private long drift(int k, int n, int c) {
        return loose(k) && in(n, 0, 60) && cell(c) ? drifted(k, n)[c] : NONE;
    }

    private int sodden(int k, int n) {
        if (!loose(k) || !in(n, 0, 60)) {
            return NONE;
        }
        long[] d = drifted(k, n);
        long most = Arrays.stream(d).max().getAsLong();
        int c = 0;
        while (d[c] != most) {
            c++;
        }
        return c;
    }

    private int hot(int law, int n) {
        if (!in(law, NONE, s.laws.size() - 1) || !in(n, 0, 60)) {
            return NONE;
        }
        State st = s.copy();
        st.force = law;
        for (int i = 0; i < n; i++) {
            minute(st);
        }
        return st.sparks.stream().mapToInt(x -> x.heat).sum();
    }

    private int nights(int seed, int n) throws Refused {
        unless(in(seed, 0, 1000000) && in(n, 1, 60), -1);
        unless(!s.sparks.isEmpty() && !s.people.isEmpty(), -3);
        State st = s.copy();
        long d = seed;
        int calls = 0;
        for (int i = 0; i < n; i++) {
            if (st.terms[0] == 999) {
                break;
            }
            d = (d * 1103 + 12345) % 1000003;
            int k = (int) (d % st.sparks.size());
            d = (d * 1103 + 12345) % 1000003;
            int p = (int) (d % st.people.size());
            d = (d * 1103 + 12345) % 1000003;
            int what = (int) (d % 3);
            try {
                if (what == 0) {
                    call(st, null, k, p);
                    calls++;
                } else if (what == 1) {
                    walk(st, null, p, k % 4 + 1);
                }
            } catch (Refused r) {
                // it can't be: nothing
            }
            minute(st);
        }
        night = st;
        return calls;
    }

    private int drawn(int k, int what) {
        if (night == null || !in(what, 0, 2)) {
            return NOTHING;
        }
        if (what == 2) {
            return in(k, 0, night.people.size() - 1) ? night.people.get(k).cell : NOTHING;
        }
        if (!in(k, 0, night.sparks.size() - 1)) {
            return NOTHING;
        }
        return what == 0 ? night.sparks.get(k).cell : night.sparks.get(k).heat;
    }

    private int count(int what) {
        switch (what) {
            case 0: return s.sparks.size();
            case 1: return (int) s.sparks.stream().filter(x -> x.cell != NONE).count();
            case 2: return s.people.size();
            case 3: return s.answers.size();
            case 4: return s.laws.size();
            case 5: return undo.size();
            case 6: return tape.size();
            case 7: return refusals.getOrDefault(-1, 0);
            case 8: return refusals.getOrDefault(-2, 0);
            case 9: return refusals.getOrDefault(-3, 0);
            case 10: return refusals.getOrDefault(-5, 0);
            case 11: return refusals.getOrDefault(-6, 0);
            case 12: return s.force;
            case 13: case 14: case 15: case 16: return s.terms[what - 13];
            default: return NONE;
        }
    }

    // ---- texts ----

    private List<Clause> read(List<Integer> text, boolean orders) throws Refused {
        try {
            List<Clause> clauses = new Reader(text, orders).whole();
            fault = NONE;
            return clauses;
        } catch (Fault f) {
            fault = f.place;
            throw new Refused(-6);
        }
    }

    /** Descends by the grammar, one method a rule. */
    private static final class Reader {
        private final List<String> tokens = new ArrayList<>();
        private final List<Integer> places = new ArrayList<>();
        private final boolean orders;
        private int at;
        private int parts;
        private int depth;

        Reader(List<Integer> text, boolean orders) {
            this.orders = orders;
            StringBuilder b = new StringBuilder();
            for (int v : text) {
                b.append((char) v);
            }
            java.util.regex.Matcher m = java.util.regex.Pattern
                    .compile("[a-z]+|[0-9]+|[^ ]", java.util.regex.Pattern.DOTALL).matcher(b);
            while (m.find()) {
                tokens.add(m.group());
                places.add(m.start());
            }
            tokens.add("");
            places.add(text.size());
        }

        private String now() {
            return tokens.get(at);
        }

        private Fault fault() {
            return new Fault(places.get(at));
        }

        private boolean take(String... any) {
            if (Arrays.asList(any).contains(now())) {
                at++;
                return true;
            }
            return false;
        }

        private void need(String token) throws Fault {
            if (!take(token)) {
                throw fault();
            }
        }

        List<Clause> whole() throws Fault {
            List<Clause> all = new ArrayList<>();
            do {
                if (all.size() == 12) {
                    throw fault();
                }
                all.add(orders ? order() : law());
            } while (take(";"));
            if (at != tokens.size() - 1) {
                throw fault();
            }
            return all;
        }

        private Clause law() throws Fault {
            Clause c = new Clause();
            c.verb = now();
            if (take("goes", "burns")) {
                c.a = sum();
            } else if (!take("shuns", "bars")) {
                throw fault();
            }
            if (take("if")) {
                c.test = test();
            }
            return c;
        }

        private Clause order() throws Fault {
            Clause c = new Clause();
            c.verb = now();
            if (take("call")) {
                c.a = sum();
                need("by");
                c.b = sum();
            } else if (take("wet")) {
                c.a = sum();
            } else if (take("walk")) {
                c.a = sum();
                need("to");
                c.b = sum();
            } else if (!take("pass")) {
                throw fault();
            }
            if (take("times")) {
                c.times = number(1, 20);
            }
            if (take("if")) {
                c.test = test();
            }
            return c;
        }

        private int number(int low, int high) throws Fault {
            if (!now().matches("[0-9]+")) {
                throw fault();
            }
            java.math.BigInteger v = new java.math.BigInteger(now());
            if (v.compareTo(java.math.BigInteger.valueOf(low)) < 0
                    || v.compareTo(java.math.BigInteger.valueOf(high)) > 0) {
                throw fault();
            }
            at++;
            return v.intValue();
        }

        private Test test() throws Fault {
            Test left = both();
            while (take("or")) {
                Test a = left;
                Test b = both();
                left = w -> a.so(w) || b.so(w);
            }
            return left;
        }

        private Test both() throws Fault {
            Test left = plain();
            while (take("and")) {
                Test a = left;
                Test b = plain();
                left = w -> a.so(w) && b.so(w);
            }
            return left;
        }

        private void deeper() throws Fault {
            if (depth == 8) {
                throw fault();
            }
            depth++;
            at++;
        }

        private Test plain() throws Fault {
            if (take("not")) {
                Test a = plain();
                return w -> !a.so(w);
            }
            if (now().equals("(")) {
                deeper();
                Test a = test();
                need(")");
                depth--;
                return a;
            }
            Sum a = sum();
            String how = now();
            if (!take("<", ">", "=")) {
                throw fault();
            }
            Sum b = sum();
            return w -> {
                long x = a.of(w);
                long y = b.of(w);
                return how.equals("<") ? x < y : how.equals(">") ? x > y : x == y;
            };
        }

        private Sum sum() throws Fault {
            Sum left = term();
            for (String how = now(); take("+", "-"); how = now()) {
                left = joined(left, how, term());
            }
            return left;
        }

        private Sum term() throws Fault {
            Sum left = part();
            for (String how = now(); take("*", "/", "%"); how = now()) {
                left = joined(left, how, part());
            }
            return left;
        }

        private static Sum joined(Sum a, String how, Sum b) {
            return w -> {
                long x = a.of(w);
                long y = b.of(w);
                if (y == 0 && (how.equals("/") || how.equals("%"))) {
                    throw new Broken();
                }
                long v = how.equals("+") ? x + y : how.equals("-") ? x - y : how.equals("*") ? x * y
                        : how.equals("/") ? x / y : x % y;
                if (Math.abs(v) > 1_000_000_000L) {
                    throw new Broken();
                }
                return v;
            };
        }

        private Sum part() throws Fault {
            if (now().equals("[")) {
                deeper();
                Sum a = sum();
                need("]");
                depth--;
                return a;
            }
            if (parts == 50) {
                throw fault();
            }
            parts++;
            String word = now();
            if (word.matches("[0-9]+")) {
                long v = number(0, 1000);
                return w -> v;
            }
            if (orders && take("heat", "cell")) {
                String key = word + number(0, 5);
                return w -> w.get(key);
            }
            boolean fine = orders ? take("minute", "done", "latest", "loose")
                    : take("spark", "heat", "name", "x", "y", "kind", "far", "person", "minute", "mood");
            if (!fine) {
                throw fault();
            }
            return w -> w.get(word);
        }
    }
}
