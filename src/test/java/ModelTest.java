import java.nio.charset.StandardCharsets;
import java.util.ArrayList;
import java.util.List;
import java.util.Random;

/** Long rows of calls by fixed seeds: each answer of the class must be the one of PlainModel. */
public final class ModelTest {
    private static final int NONE = -1;
    private static final int CALLS = 512;
    private static int wrong = 0;

    private final Random random;
    private final NamedSparks real = new NamedSparks();
    private final PlainModel model = new PlainModel();
    private final List<String> told = new ArrayList<>();
    private final int run;
    private boolean failed;

    private ModelTest(int run) {
        this.run = run;
        this.random = new Random(7919L * run + 13);
    }

    public static void main(String[] args) {
        int runs = args.length > 0 ? Integer.parseInt(args[0]) : 1200;
        for (int run = 0; run < runs && wrong < 5; run++) {
            new ModelTest(run).go();
        }
        System.out.println(wrong == 0 ? runs + " runs are as the model's" : wrong + " runs are not as the model's");
        if (wrong != 0) {
            System.exit(1);
        }
    }

    private void go() {
        setUp();
        while (told.size() < CALLS && !failed) {
            next();
        }
        for (int k = 0; k < 6 && !failed; k++) {
            for (int what = 0; what < 6; what++) {
                call("of", k, what);
            }
        }
    }

    /** Most runs begin with a room in which something can happen. */
    private void setUp() {
        if (random.nextInt(10) == 0) {
            return;
        }
        if (random.nextInt(3) > 0) {
            row();
        }
        for (int i = random.nextInt(7); i > 0; i--) {
            call("spark", below(25), 1 + below(9), below(4) > 0 ? below(30) : below(100));
        }
        for (int i = random.nextInt(6); i > 0; i--) {
            call("person", below(25), below(9));
        }
        for (int i = 0; i < 5; i++) {
            call("knows", i, below(3) > 0 ? below(64) | below(64) : below(64));
        }
        if (random.nextInt(4) == 0) {
            call("terms", 0, 930 + below(70));
        }
        if (random.nextInt(2) == 0) {
            call("terms", 3, below(25));
        } else if (random.nextInt(2) == 0) {
            chained();
        }
    }

    /** PEOPLE with short REACH of whom one is at HOME: most CHAINS are long here. */
    private void chained() {
        for (int i = 0; i < 5; i++) {
            call("person", below(25), 2 + below(3));
            call("knows", i, 63 - (1 << below(6)));
        }
        call("terms", 3, (int) model.ask("at", below(5), 0));
        for (int k = 0; k < 6; k++) {
            for (int i = NONE; i < 4; i++) {
                call("chain", k, i);
            }
        }
    }

    private int below(int n) {
        return random.nextInt(n);
    }

    /** A number that mostly can be: low .. high, at times just beyond, seldom far off. */
    private int near(int low, int high) {
        int how = below(40);
        if (how == 0) {
            return new int[] {Integer.MIN_VALUE, Integer.MAX_VALUE, -100, 1000, 32, 64, -2}[below(7)];
        }
        if (how < 3) {
            return how == 1 ? low - 1 : high + 1;
        }
        return low + below(high - low + 1);
    }

    private void next() {
        switch (below(46)) {
            case 0: call("spark", near(0, 24), near(1, 9), near(0, 99)); break;
            case 1: case 2: call("of", near(0, 5), near(0, 5)); break;
            case 3: call("person", near(0, 24), near(0, 8)); break;
            case 4: call("at", near(0, 4), near(0, 2)); break;
            case 5: call("knows", near(0, 4), near(0, 63)); break;
            case 6: case 7: call("asks", near(0, 5), near(0, 4), near(0, 2)); break;
            case 8: call("floor", near(0, 24)); break;
            case 9: terms(); break;
            case 10: call("feed", random.nextInt(), random.nextInt(), random.nextInt(), 538976288, 0); break;
            case 11: call("end", near(0, 60)); break;
            case 12: if (below(3) == 0) { row(); } break;
            case 13: call("ash"); break;
            case 14: case 15: text(false); call("law"); call("fault"); break;
            case 16: case 17: case 18: text(true); call("orders"); call("fault"); call("stopped"); break;
            case 19: call("force", near(-1, 5)); break;
            case 20: case 21: call("call", near(0, 5), near(0, 4)); break;
            case 22: call("wet", near(0, 24)); break;
            case 23: call("walk", near(0, 4), near(1, 4)); break;
            case 24: case 25: call("pass"); break;
            case 26: call("undo"); break;
            case 27: call("where", near(0, 5), near(0, 60)); break;
            case 28: call("first", near(0, 24), near(0, 1)); break;
            case 29: case 30: call("chain", near(0, 5), near(-1, 4)); break;
            case 31: call("answer", near(0, 4), near(0, 1)); break;
            case 32: if (below(4) == 0) { call("forget"); } break;
            case 33: call("which"); break;
            case 34: call("let", near(0, 1)); break;
            case 35: call("alike", near(-1, 6)); break;
            case 36: call("anew", near(0, 1)); break;
            case 37: call("guard", near(0, 4), near(0, 1)); break;
            case 38: call("lessons", near(0, 5)); break;
            case 39: call("drift", near(0, 5), near(0, 60), near(0, 24)); break;
            case 40: call("sodden", near(0, 5), near(0, 60)); break;
            case 41: call("hot", near(-1, 5), near(0, 60)); break;
            case 42: call("nights", near(0, 1000000), near(1, 60)); break;
            case 43: call("drawn", near(0, 5), near(0, 2)); break;
            case 44: call(below(2) == 0 ? "image" : "back", near(0, 1)); break;
            default: call("count", near(0, 16)); call("status"); break;
        }
    }

    private void terms() {
        if (below(3) == 0) {
            int what = near(0, 3);
            call("terms", what, near(0, what == 0 ? 999 : what == 1 ? 2 : what == 2 ? 9 : 24));
        }
    }

    private void row() {
        int n = 1 + below(12);
        byte[] bytes = new byte[n];
        for (int i = 0; i < n; i++) {
            bytes[i] = (byte) (i % 2 == 0 ? near(0, 24) : near(0, 3));
        }
        feed(bytes);
        call("row");
        call("ash");
    }

    private void text(boolean orders) {
        Texts texts = new Texts(random, orders);
        feed(texts.make().getBytes(StandardCharsets.ISO_8859_1));
    }

    private void feed(byte[] bytes) {
        if (below(20) > 0) {
            call("end", 0);
        }
        int before = (int) model.ask("count", 6);
        int n = Math.min(bytes.length, 400 - before);
        for (int i = 0; i < n; i += 20) {
            int[] five = new int[5];
            for (int j = 0; j < 20; j++) {
                int b = i + j < bytes.length ? bytes[i + j] & 255 : 32;
                five[j / 4] = five[j / 4] << 8 | b;
            }
            call("feed", five);
        }
        if (below(10) > 0) {
            call("end", before + n);
        }
    }

    private void call(String name, int... a) {
        if (failed || told.size() >= CALLS + 40) {
            return;
        }
        long want = model.ask(name, a);
        long got = Face.ask(real, name, a);
        told.add(Face.shown(name, a) + " answered " + got);
        if (got != want) {
            failed = true;
            wrong++;
            System.out.println("run " + run + ", the model says " + want + ":");
            for (String line : told.subList(Math.max(0, told.size() - 60), told.size())) {
                System.out.println("  " + line);
            }
        }
    }
}
