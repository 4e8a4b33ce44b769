import java.util.Arrays;

/** A room of sparks that answer to their names. ../shared/DOC.md says what each call promises. */
public final class NamedSparks {
    public static final int NONE = -1;
    public static final int NOTHING = -100;

    private static final int WRONG_NUMBER = -1;
    private static final int NOT_THERE = -2;
    private static final int CANNOT_BE = -3;
    private static final int NO_SPACE = -5;
    private static final int WRONG_TEXT = -6;

    private static final int SIDE = 5;
    private static final int CELLS = 25;
    private static final int WET = 1;
    private static final int PAPER = 2;
    private static final int WALL = 3;
    private static final int WAYS = 4;

    private static final int MOST_SPARKS = 6;
    private static final int MOST_PEOPLE = 5;
    private static final int MOST_ANSWERS = 6;
    private static final int MOST_LAWS = 6;
    private static final int MOST_HEAT = 9;
    private static final int MOST_BURN = 3;
    private static final int MOST_NAME = 99;
    private static final int MOST_REACH = 8;
    private static final int MOST_KNOWN = 63;
    private static final int MOST_MINUTE = 999;
    private static final int MOST_WIND = 2;
    private static final int MOST_MOOD = 9;
    private static final int MOST_AHEAD = 60;
    private static final int MOST_SEED = 1000000;
    private static final int MOST_UNDONE = 16;
    private static final int IMAGES = 2;

    private static final int MINUTE = 0;
    private static final int WIND = 1;
    private static final int MOOD = 2;
    private static final int HOME = 3;
    private static final int TERMS = 4;

    /** The deeds that can be undone, numbered as undo() tells them and as ORDER_VERBS lists them. */
    private static final int CALL = 0;
    private static final int WETTING = 1;
    private static final int WALK = 2;
    private static final int PASS = 3;

    private static final int MOST_BYTES = 400;
    private static final int MOST_CLAUSES = 12;
    private static final int MOST_PARTS = 50;
    private static final int MOST_BRACKETS = 8;
    private static final int MOST_NUMBER = 1000;
    private static final int MOST_TIMES = 20;
    private static final int MOST_VALUE = 1000000000;
    /** No SUM within its limits has this value, so that it can stand for BROKEN. */
    private static final int BROKEN = -2 * MOST_VALUE;

    private static final String LAW_VERBS = "goes burns shuns bars";
    private static final int GOES = 0;
    private static final int BURNS = 1;
    private static final int SHUNS = 2;
    private static final int BARS = 3;
    private static final String LAW_WORDS = "spark heat name x y kind far person minute mood";
    private static final int LAW_WORD_COUNT = 10;

    private static final String ORDER_VERBS = "call wet walk pass";
    private static final String ORDER_WORDS = "minute done latest loose heat cell";
    /** From this one on a word of ORDERS names a SPARK behind it: six numbered words for each. */
    private static final int FIRST_OF_SPARK = 4;
    private static final int ORDER_WORD_COUNT = 16;

    private final Rules rules;
    private final Stage stage;
    private final Stage draft;
    private final Room room;
    private final Room night;
    private final Room[] images;
    private final boolean[] kept;
    private final Paper paper;
    private final Tape tape;
    private final Parser parser;
    private final int[] refusals;
    private boolean anyNight;
    private int latestRefusal;
    private int ashes;
    private int faultPlace;
    private int stoppedClause;

    public NamedSparks() {
        rules = new Rules();
        stage = new Stage(rules);
        draft = new Stage(rules);
        room = stage.room;
        night = new Room();
        images = new Room[IMAGES];
        for (int i = 0; i < IMAGES; i++) {
            images[i] = new Room();
        }
        kept = new boolean[IMAGES];
        paper = new Paper(rules);
        tape = new Tape();
        parser = new Parser(tape);
        refusals = new int[-WRONG_TEXT + 1];
        faultPlace = NONE;
        stoppedClause = NONE;
    }

    public int spark(int cell, int heat, int name) {
        if (!isCell(cell) || !isWithin(heat, 1, MOST_HEAT) || !isWithin(name, 0, MOST_NAME)) {
            return refuse(WRONG_NUMBER);
        }
        if (room.kinds[cell] == WALL) {
            return refuse(CANNOT_BE);
        }
        if (room.sparks >= MOST_SPARKS) {
            return refuse(NO_SPACE);
        }
        stage.past.clear();
        return grant(room.addSpark(cell, heat, name));
    }

    public int of(int spark, int what) {
        if (!room.hasSpark(spark)) {
            return NOTHING;
        }
        boolean gone = room.cells[spark] == NONE;
        switch (what) {
            case 0:
                return room.cells[spark];
            case 1:
                return room.heats[spark];
            case 2:
                return room.names[spark];
            case 3:
                return gone ? NOTHING : rules.wayOf(room, spark);
            case 4:
                return gone ? NOTHING : rules.burnOf(room, spark);
            case 5:
                return room.knowers(spark);
            default:
                return NOTHING;
        }
    }

    public int person(int cell, int reach) {
        if (!isCell(cell) || !isWithin(reach, 0, MOST_REACH)) {
            return refuse(WRONG_NUMBER);
        }
        if (room.kinds[cell] == WALL) {
            return refuse(CANNOT_BE);
        }
        if (room.people >= MOST_PEOPLE) {
            return refuse(NO_SPACE);
        }
        stage.past.clear();
        return grant(room.addPerson(cell, reach));
    }

    public int at(int person, int what) {
        if (!room.hasPerson(person)) {
            return NONE;
        }
        switch (what) {
            case 0:
                return room.stands[person];
            case 1:
                return room.reaches[person];
            case 2:
                return room.known[person];
            default:
                return NONE;
        }
    }

    public int knows(int person, int sparks) {
        if (!isWithin(sparks, 0, MOST_KNOWN)) {
            return refuse(WRONG_NUMBER);
        }
        if (!room.hasPerson(person)) {
            return refuse(NOT_THERE);
        }
        int before = room.known[person];
        room.known[person] = sparks;
        return grant(before);
    }

    public int asks(int spark, int person, int what) {
        if (!room.hasLoose(spark) || !room.hasPerson(person)) {
            return NONE;
        }
        int cell = room.cells[spark];
        switch (what) {
            case 0:
                return farApart(cell, room.stands[person]);
            case 1:
                return rules.isShunned(room, spark, cell, person) ? 1 : 0;
            case 2:
                return rules.comes(room, spark, cell, person) ? 1 : 0;
            default:
                return NONE;
        }
    }

    public int floor(int cell) {
        return isCell(cell) ? room.kinds[cell] : NONE;
    }

    public int terms(int what, int value) {
        if (!isWithin(what, 0, TERMS - 1) || !isWithin(value, 0, highestTerm(what))) {
            return refuse(WRONG_NUMBER);
        }
        int before = room.terms[what];
        room.terms[what] = value;
        stage.past.clear();
        return grant(before);
    }

    public int feed(int a, int b, int c, int d, int e) {
        if (!tape.hasSpace()) {
            return NONE;
        }
        tape.append(a);
        tape.append(b);
        tape.append(c);
        tape.append(d);
        tape.append(e);
        return tape.size;
    }

    public int end(int n) {
        if (!isWithin(n, 0, tape.size)) {
            return NONE;
        }
        tape.size = n;
        return n;
    }

    public int row() {
        if (tape.size == 0) {
            return refuse(WRONG_TEXT);
        }
        int told = 0;
        ashes = 0;
        for (int i = 0; i < tape.size; i += 2) {
            int cell = tape.byteAt(i);
            int kind = tape.byteAt(i + 1);
            if (isCell(cell) && isWithin(kind, 0, WALL)) {
                room.kinds[cell] = kind;
                told++;
            } else {
                ashes++;
            }
        }
        tape.size = 0;
        stage.past.clear();
        return grant(told);
    }

    public int ash() {
        return ashes;
    }

    public int law() {
        if (room.laws >= MOST_LAWS) {
            tape.size = 0;
            return refuse(NO_SPACE);
        }
        faultPlace = parser.read(false);
        tape.size = 0;
        if (faultPlace != NONE) {
            return refuse(WRONG_TEXT);
        }
        return grant(room.addLaw(parser.text.trimmed()));
    }

    public int orders() {
        stoppedClause = NONE;
        faultPlace = parser.read(true);
        tape.size = 0;
        if (faultPlace != NONE) {
            return refuse(WRONG_TEXT);
        }
        draft.copyFrom(stage);
        draft.startOrders();
        for (int i = 0; i < parser.text.clauses; i++) {
            if (!draft.runClause(parser.text, i)) {
                stoppedClause = i;
                return refuse(CANNOT_BE);
            }
        }
        stage.copyFrom(draft);
        return grant(draft.done);
    }

    public int fault() {
        return faultPlace;
    }

    public int stopped() {
        return stoppedClause;
    }

    public int force(int law) {
        if (law != NONE && !room.hasLaw(law)) {
            return refuse(NOT_THERE);
        }
        int before = room.inForce;
        room.inForce = law;
        return grant(before);
    }

    public int call(int spark, int person) {
        return noted(stage.perform(CALL, spark, person));
    }

    public int wet(int cell) {
        return noted(stage.perform(WETTING, cell, 0));
    }

    public int walk(int person, int way) {
        return noted(stage.perform(WALK, person, way));
    }

    public int pass() {
        return noted(stage.perform(PASS, 0, 0));
    }

    public int undo() {
        return noted(stage.past.takeBack(room));
    }

    public int where(int spark, int n) {
        if (!room.hasSpark(spark) || !isWithin(n, 0, MOST_AHEAD)) {
            return NOTHING;
        }
        return paper.cellLater(room, spark, n);
    }

    public int first(int cell, int what) {
        if (!isCell(cell) || !isWithin(what, 0, 1)) {
            return NONE;
        }
        return paper.firstOn(room, cell, what);
    }

    public int chain(int spark, int i) {
        if (!room.hasLoose(spark)) {
            return NONE;
        }
        int calls = paper.findChain(room, spark);
        if (i == NONE) {
            return calls;
        }
        return isWithin(i, 0, calls - 1) ? paper.callerInChain(room, i) : NONE;
    }

    public int answer(int person, int is) {
        if (!isWithin(is, 0, 1)) {
            return refuse(WRONG_NUMBER);
        }
        if (!room.hasPerson(person)) {
            return refuse(NOT_THERE);
        }
        if (room.answers >= MOST_ANSWERS) {
            return refuse(NO_SPACE);
        }
        return grant(room.addAnswer(person, is));
    }

    public int forget() {
        int before = room.answers;
        room.answers = 0;
        return before;
    }

    public int which() {
        return Riddles.possibleSparks(room);
    }

    public int let(int what) {
        return isWithin(what, 0, 1) ? Riddles.nextCaller(room, what) : NONE;
    }

    public int alike(int i) {
        return i >= NONE ? Riddles.alikeTwo(room, i) : NONE;
    }

    public int anew(int what) {
        return isWithin(what, 0, 1) ? numberOrBits(Riddles.namedAnew(room), what) : NONE;
    }

    public int guard(int k, int what) {
        if (!isWithin(k, 0, MOST_PEOPLE - 1) || !isWithin(what, 0, 1)) {
            return NONE;
        }
        int bits = Riddles.guards(room, k);
        return bits == NONE ? NONE : numberOrBits(bits, what);
    }

    public int lessons(int k) {
        return isWithin(k, 0, room.people) ? Riddles.lessonsNeeded(room, k) : NONE;
    }

    public long drift(int spark, int n, int cell) {
        if (!room.hasLoose(spark) || !isWithin(n, 0, MOST_AHEAD) || !isCell(cell)) {
            return NONE;
        }
        paper.driftFor(room, spark, n);
        return paper.driftedTo(cell);
    }

    public int sodden(int spark, int n) {
        if (!room.hasLoose(spark) || !isWithin(n, 0, MOST_AHEAD)) {
            return NONE;
        }
        paper.driftFor(room, spark, n);
        return paper.likeliestCell();
    }

    public int hot(int law, int n) {
        if ((law != NONE && !room.hasLaw(law)) || !isWithin(n, 0, MOST_AHEAD)) {
            return NONE;
        }
        return paper.heatLater(room, law, n);
    }

    public int nights(int seed, int n) {
        if (!isWithin(seed, 0, MOST_SEED) || !isWithin(n, 1, MOST_AHEAD)) {
            return refuse(WRONG_NUMBER);
        }
        if (room.sparks == 0 || room.people == 0) {
            return refuse(CANNOT_BE);
        }
        night.copyFrom(room);
        anyNight = true;
        return grant(paper.playNights(night, seed, n));
    }

    public int drawn(int k, int what) {
        if (!anyNight) {
            return NOTHING;
        }
        switch (what) {
            case 0:
                return night.hasSpark(k) ? night.cells[k] : NOTHING;
            case 1:
                return night.hasSpark(k) ? night.heats[k] : NOTHING;
            case 2:
                return night.hasPerson(k) ? night.stands[k] : NOTHING;
            default:
                return NOTHING;
        }
    }

    public int image(int k) {
        if (!isWithin(k, 0, IMAGES - 1)) {
            return refuse(WRONG_NUMBER);
        }
        images[k].copyFrom(room);
        kept[k] = true;
        return grant(0);
    }

    public int back(int k) {
        if (!isWithin(k, 0, IMAGES - 1)) {
            return refuse(WRONG_NUMBER);
        }
        if (!kept[k]) {
            return refuse(NOT_THERE);
        }
        room.copyFrom(images[k]);
        stage.past.clear();
        return grant(0);
    }

    public int count(int what) {
        switch (what) {
            case 0:
                return room.sparks;
            case 1:
                return room.looseSparks();
            case 2:
                return room.people;
            case 3:
                return room.answers;
            case 4:
                return room.laws;
            case 5:
                return stage.past.size;
            case 6:
                return tape.size;
            case 7:
                return refusals[-WRONG_NUMBER];
            case 8:
                return refusals[-NOT_THERE];
            case 9:
                return refusals[-CANNOT_BE];
            case 10:
                return refusals[-NO_SPACE];
            case 11:
                return refusals[-WRONG_TEXT];
            case 12:
                return room.inForce;
            default:
                return isWithin(what, 13, 16) ? room.terms[what - 13] : NONE;
        }
    }

    public int status() {
        return latestRefusal;
    }

    private int refuse(int reason) {
        latestRefusal = reason;
        if (isWithin(-reason, 0, refusals.length - 1)) {
            refusals[-reason]++;
        }
        return reason;
    }

    private int grant(int answer) {
        latestRefusal = 0;
        return answer;
    }

    /** For calls whose answers below 0 are all refusals. */
    private int noted(int answer) {
        return answer < 0 ? refuse(answer) : grant(answer);
    }

    private static boolean isWithin(int value, int lowest, int highest) {
        return value >= lowest && value <= highest;
    }

    private static boolean isCell(int cell) {
        return cell >= 0 && cell < CELLS;
    }

    private static int nearest(int value, int lowest, int highest) {
        return Math.max(lowest, Math.min(highest, value));
    }

    private static int highestTerm(int what) {
        switch (what) {
            case MINUTE:
                return MOST_MINUTE;
            case WIND:
                return MOST_WIND;
            case MOOD:
                return MOST_MOOD;
            default:
                return CELLS - 1;
        }
    }

    private static int farApart(int a, int b) {
        int columns = a % SIDE - b % SIDE;
        int rows = a / SIDE - b / SIDE;
        return (columns < 0 ? -columns : columns) + (rows < 0 ? -rows : rows);
    }

    /** The CELL one WAY on; NONE beyond the edge. */
    private static int stepFrom(int cell, int way) {
        int x = cell % SIDE;
        int y = cell / SIDE;
        switch (way) {
            case 1:
                return y < SIDE - 1 ? cell + SIDE : NONE;
            case 2:
                return x < SIDE - 1 ? cell + 1 : NONE;
            case 3:
                return y > 0 ? cell - SIDE : NONE;
            case 4:
                return x > 0 ? cell - 1 : NONE;
            default:
                return cell;
        }
    }

    private static int numberOrBits(int bits, int what) {
        return what == 0 ? Integer.bitCount(bits) : bits;
    }

    /** All that an IMAGE keeps. */
    private static final class Room {
        /** How many numbers saveMoves() writes. */
        private static final int MOVES = CELLS + MOST_SPARKS + MOST_SPARKS + MOST_PEOPLE + 1;

        final int[] kinds = new int[CELLS];
        final int[] cells = new int[MOST_SPARKS];
        final int[] heats = new int[MOST_SPARKS];
        final int[] names = new int[MOST_SPARKS];
        int sparks;
        final int[] stands = new int[MOST_PEOPLE];
        final int[] reaches = new int[MOST_PEOPLE];
        final int[] known = new int[MOST_PEOPLE];
        int people;
        final int[] asked = new int[MOST_ANSWERS];
        final int[] replies = new int[MOST_ANSWERS];
        int answers;
        final int[] terms = new int[TERMS];
        final Text[] texts = new Text[MOST_LAWS];
        int laws;
        int inForce = NONE;

        Room() {
            terms[WIND] = 1;
        }

        boolean hasSpark(int spark) {
            return spark >= 0 && spark < sparks;
        }

        /** Whether there is such a SPARK that is not GONE. */
        boolean hasLoose(int spark) {
            return hasSpark(spark) && cells[spark] != NONE;
        }

        boolean hasPerson(int person) {
            return person >= 0 && person < people;
        }

        boolean hasLaw(int number) {
            return number >= 0 && number < laws;
        }

        /** The LAW in FORCE; null without. */
        Text textInForce() {
            return hasLaw(inForce) ? texts[inForce] : null;
        }

        int looseSparks() {
            int loose = 0;
            for (int i = 0; i < sparks; i++) {
                if (cells[i] != NONE) {
                    loose++;
                }
            }
            return loose;
        }

        /** The PEOPLE who KNOW a SPARK, as bits. */
        int knowers(int spark) {
            int bits = 0;
            for (int i = 0; i < people; i++) {
                bits |= (known[i] >> spark & 1) << i;
            }
            return bits;
        }

        int heatOfAll() {
            int heat = 0;
            for (int i = 0; i < sparks; i++) {
                heat += heats[i];
            }
            return heat;
        }

        /** The lowest SPARK in a CELL; NONE without. */
        int sparkOn(int cell) {
            for (int i = 0; i < sparks; i++) {
                if (cells[i] == cell) {
                    return i;
                }
            }
            return NONE;
        }

        int addSpark(int cell, int heat, int name) {
            if (sparks >= MOST_SPARKS) {
                return NO_SPACE;
            }
            cells[sparks] = cell;
            heats[sparks] = heat;
            names[sparks] = name;
            return sparks++;
        }

        int addPerson(int cell, int reach) {
            if (people >= MOST_PEOPLE) {
                return NO_SPACE;
            }
            stands[people] = cell;
            reaches[people] = reach;
            known[people] = 0;
            return people++;
        }

        int addAnswer(int person, int is) {
            if (answers >= MOST_ANSWERS) {
                return NO_SPACE;
            }
            asked[answers] = person;
            replies[answers] = is;
            answers++;
            return answers;
        }

        int addLaw(Text text) {
            if (laws >= MOST_LAWS) {
                return NO_SPACE;
            }
            texts[laws] = text;
            return laws++;
        }

        int wetCell(int cell) {
            if (!isCell(cell)) {
                return WRONG_NUMBER;
            }
            int kind = kinds[cell];
            if (kind == WET || kind == WALL) {
                return CANNOT_BE;
            }
            kinds[cell] = WET;
            return kind;
        }

        int walkPerson(int person, int way) {
            if (!isWithin(way, 1, WAYS)) {
                return WRONG_NUMBER;
            }
            if (!hasPerson(person)) {
                return NOT_THERE;
            }
            int to = stepFrom(stands[person], way);
            if (!isCell(to) || kinds[to] == WALL) {
                return CANNOT_BE;
            }
            stands[person] = to;
            return to;
        }

        void copyFrom(Room other) {
            System.arraycopy(other.kinds, 0, kinds, 0, CELLS);
            System.arraycopy(other.cells, 0, cells, 0, MOST_SPARKS);
            System.arraycopy(other.heats, 0, heats, 0, MOST_SPARKS);
            System.arraycopy(other.names, 0, names, 0, MOST_SPARKS);
            sparks = other.sparks;
            System.arraycopy(other.stands, 0, stands, 0, MOST_PEOPLE);
            System.arraycopy(other.reaches, 0, reaches, 0, MOST_PEOPLE);
            System.arraycopy(other.known, 0, known, 0, MOST_PEOPLE);
            people = other.people;
            System.arraycopy(other.asked, 0, asked, 0, MOST_ANSWERS);
            System.arraycopy(other.replies, 0, replies, 0, MOST_ANSWERS);
            answers = other.answers;
            System.arraycopy(other.terms, 0, terms, 0, TERMS);
            for (int i = 0; i < MOST_LAWS; i++) {
                texts[i] = other.texts[i];
            }
            laws = other.laws;
            inForce = other.inForce;
        }

        /** Writes all that a deed can change; the place must leave space for MOVES numbers. */
        void saveMoves(int[] rows, int place) {
            int at = place;
            System.arraycopy(kinds, 0, rows, at, CELLS);
            at += CELLS;
            System.arraycopy(cells, 0, rows, at, MOST_SPARKS);
            at += MOST_SPARKS;
            System.arraycopy(heats, 0, rows, at, MOST_SPARKS);
            at += MOST_SPARKS;
            System.arraycopy(stands, 0, rows, at, MOST_PEOPLE);
            at += MOST_PEOPLE;
            rows[at] = terms[MINUTE];
        }

        void loadMoves(int[] rows, int place) {
            int at = place;
            System.arraycopy(rows, at, kinds, 0, CELLS);
            at += CELLS;
            System.arraycopy(rows, at, cells, 0, MOST_SPARKS);
            at += MOST_SPARKS;
            System.arraycopy(rows, at, heats, 0, MOST_SPARKS);
            at += MOST_SPARKS;
            System.arraycopy(rows, at, stands, 0, MOST_PEOPLE);
            at += MOST_PEOPLE;
            terms[MINUTE] = rows[at];
        }
    }

    /** The deeds that can be undone: a ring of what the room was ahead of each. */
    private static final class Past {
        /** One more than are kept, so that staging a deed that is then refused loses none. */
        private static final int ROWS = MOST_UNDONE + 1;

        private final int[] rows = new int[ROWS * Room.MOVES];
        private final int[] deeds = new int[ROWS];
        private int oldest;
        int size;

        void clear() {
            size = 0;
        }

        /** Writes down the room ahead of a deed; it counts only when keep() follows. */
        void prepare(Room room) {
            room.saveMoves(rows, freeRow() * Room.MOVES);
        }

        void keep(int deed) {
            deeds[freeRow()] = deed;
            if (size < MOST_UNDONE) {
                size++;
            } else {
                oldest = (oldest + 1) % ROWS;
            }
        }

        int takeBack(Room room) {
            if (size == 0) {
                return CANNOT_BE;
            }
            size--;
            int row = freeRow();
            room.loadMoves(rows, row * Room.MOVES);
            return deeds[row];
        }

        void copyFrom(Past other) {
            System.arraycopy(other.rows, 0, rows, 0, rows.length);
            System.arraycopy(other.deeds, 0, deeds, 0, ROWS);
            oldest = other.oldest;
            size = other.size;
        }

        private int freeRow() {
            return (oldest + size) % ROWS;
        }
    }

    /** A room in which deeds are done and can be undone, one by one or by ORDERS. */
    private static final class Stage {
        final Room room = new Room();
        final Past past = new Past();
        private final Rules rules;
        private final int[] words = new int[ORDER_WORD_COUNT];
        private int latest;
        int done;

        Stage(Rules rules) {
            this.rules = rules;
        }

        void copyFrom(Stage other) {
            room.copyFrom(other.room);
            past.copyFrom(other.past);
        }

        int perform(int deed, int a, int b) {
            past.prepare(room);
            int told = CANNOT_BE;
            switch (deed) {
                case CALL:
                    told = rules.callSpark(room, a, b);
                    break;
                case WETTING:
                    told = room.wetCell(a);
                    break;
                case WALK:
                    told = room.walkPerson(a, b);
                    break;
                default:
                    if (room.terms[MINUTE] < MOST_MINUTE) {
                        rules.passMinute(room, 0, room.sparks - 1);
                        told = room.terms[MINUTE];
                    }
                    break;
            }
            if (told >= 0) {
                past.keep(deed);
            }
            return told;
        }

        void startOrders() {
            done = 0;
            latest = NONE;
        }

        /** Runs one CLAUSE as often as its TIMES tell; false, if it can't be. */
        boolean runClause(Text text, int clause) {
            int deed = text.slot(clause, Text.VERB);
            int times = text.slot(clause, Text.TIMES);
            for (int i = 0; i < times; i++) {
                lookAround();
                if (rules.isSo(text, clause, words)) {
                    int a = rules.sumOf(text, clause, Text.FIRST, words);
                    int b = rules.sumOf(text, clause, Text.SECOND, words);
                    int told = a == BROKEN || b == BROKEN ? CANNOT_BE : perform(deed, a, b);
                    if (told < 0) {
                        return false;
                    }
                    done++;
                    latest = deed == CALL ? told : latest;
                }
            }
            return true;
        }

        private void lookAround() {
            words[0] = room.terms[MINUTE];
            words[1] = done;
            words[2] = latest;
            words[3] = room.looseSparks();
            for (int i = 0; i < MOST_SPARKS; i++) {
                boolean there = room.hasSpark(i);
                words[FIRST_OF_SPARK + i] = there ? room.heats[i] : NONE;
                words[FIRST_OF_SPARK + MOST_SPARKS + i] = there ? room.cells[i] : NONE;
            }
        }
    }

    /** What LAWS make of a room, and what SPARKS do by them. */
    private static final class Rules {
        private final Calculator calculator = new Calculator();
        private final int[] words = new int[LAW_WORD_COUNT];

        int wayOf(Room room, int spark) {
            int told = toldBy(room, GOES, spark, room.cells[spark], NONE);
            return told == BROKEN ? (spark + room.terms[MINUTE]) % (WAYS + 1) : nearest(told, 0, WAYS);
        }

        int burnOf(Room room, int spark) {
            int cell = room.cells[spark];
            int told = toldBy(room, BURNS, spark, cell, NONE);
            if (told != BROKEN) {
                return nearest(told, -MOST_BURN, MOST_BURN);
            }
            if (!isCell(cell)) {
                return 0;
            }
            return room.kinds[cell] == PAPER ? 1 : room.kinds[cell] == WET ? -MOST_BURN : 0;
        }

        /** Whether a SPARK that were in this CELL SHUNS a PERSON. */
        boolean isShunned(Room room, int spark, int cell, int person) {
            return toldBy(room, SHUNS, spark, cell, person) != BROKEN;
        }

        private boolean isBarred(Room room, int spark, int cell) {
            return room.kinds[cell] == WALL || toldBy(room, BARS, spark, cell, NONE) != BROKEN;
        }

        /** Whether a SPARK that were in this CELL would come, if that PERSON CALLS it. */
        boolean comes(Room room, int spark, int cell, int person) {
            return isCell(cell)
                    && (room.known[person] >> spark & 1) == 1
                    && farApart(cell, room.stands[person]) <= room.reaches[person]
                    && toldBy(room, SHUNS, spark, cell, person) == BROKEN;
        }

        int callSpark(Room room, int spark, int person) {
            if (!room.hasSpark(spark) || !room.hasPerson(person)) {
                return NOT_THERE;
            }
            int cell = room.cells[spark];
            if (!comes(room, spark, cell, person)) {
                return CANNOT_BE;
            }
            int to = room.stands[person];
            boolean home = to == room.terms[HOME];
            room.cells[spark] = home ? NONE : to;
            room.heats[spark] = home ? 0 : room.heats[spark];
            return farApart(cell, to);
        }

        /**
         * A MINUTE for these SPARKS (beyond the last MINUTE, too: on paper there are more). No LAW
         * sees another SPARK, so that each can go and burn ahead of the next.
         */
        void passMinute(Room room, int lowest, int highest) {
            for (int i = lowest; i <= highest; i++) {
                if (room.hasLoose(i)) {
                    int to = stepFrom(room.cells[i], wayOf(room, i));
                    if (isCell(to) && !isBarred(room, i, to)) {
                        room.cells[i] = to;
                    }
                    room.heats[i] = nearest(room.heats[i] + burnOf(room, i), 0, MOST_HEAT);
                    room.cells[i] = room.heats[i] == 0 ? NONE : room.cells[i];
                }
            }
            room.terms[MINUTE]++;
        }

        /** Whether the "if" of a CLAUSE, if it has one, is so and not BROKEN. */
        boolean isSo(Text text, int clause, int[] values) {
            int start = text.slot(clause, Text.TEST);
            return start == NONE || calculator.value(text, start, values) == 1;
        }

        /** A SUM of a CLAUSE; 0, if it has none there. */
        int sumOf(Text text, int clause, int slot, int[] values) {
            int start = text.slot(clause, slot);
            return start == NONE ? 0 : calculator.value(text, start, values);
        }

        /** What the last CLAUSE with this verb that HOLDS tells (0 without a SUM); BROKEN without. */
        private int toldBy(Room room, int verb, int spark, int cell, int person) {
            Text text = room.textInForce();
            if (text == null || !isCell(cell)) {
                return BROKEN;
            }
            lookAt(room, spark, cell, person);
            for (int i = text.clauses - 1; i >= 0; i--) {
                if (text.slot(i, Text.VERB) == verb) {
                    int test = text.slot(i, Text.TEST);
                    int sum = text.slot(i, Text.FIRST);
                    boolean so = test == NONE || calculator.value(text, test, words) == 1;
                    int told = !so ? BROKEN : sum == NONE ? 0 : calculator.value(text, sum, words);
                    if (told != BROKEN) {
                        return told;
                    }
                }
            }
            return BROKEN;
        }

        /** Sets the words of LAWS, in the order of LAW_WORDS. */
        private void lookAt(Room room, int spark, int cell, int person) {
            if (!room.hasSpark(spark) || !isCell(cell)) {
                return;
            }
            words[0] = spark;
            words[1] = room.heats[spark];
            words[2] = room.names[spark];
            words[3] = cell % SIDE;
            words[4] = cell / SIDE;
            words[5] = room.kinds[cell];
            words[6] = farApart(cell, room.terms[HOME]);
            words[7] = person;
            words[8] = room.terms[MINUTE];
            words[9] = room.terms[MOOD];
        }
    }

    /** What is only looked at ahead: it never changes the room that it is asked about. */
    private static final class Paper {
        private static final long WHOLE = 1000000000000L;

        private final Rules rules;
        private final Room later = new Room();
        private long[] parts = new long[CELLS];
        private long[] nextParts = new long[CELLS];
        /** By where a SPARK is (with PERSON 0 .. 4, or last where it is now) and who CALLS it. */
        private final boolean[] able = new boolean[(MOST_PEOPLE + 1) * MOST_PEOPLE];
        private final int[] callsLeft = new int[MOST_PEOPLE + 1];
        private int seed;

        Paper(Rules rules) {
            this.rules = rules;
        }

        int cellLater(Room room, int spark, int n) {
            later.copyFrom(room);
            for (int i = 0; i < n; i++) {
                rules.passMinute(later, spark, spark);
            }
            return later.cells[spark];
        }

        int firstOn(Room room, int cell, int what) {
            later.copyFrom(room);
            for (int i = 0; i <= MOST_AHEAD; i++) {
                int spark = later.sparkOn(cell);
                if (spark != NONE) {
                    return what == 0 ? i : spark;
                }
                rules.passMinute(later, 0, later.sparks - 1);
            }
            return NONE;
        }

        int heatLater(Room room, int law, int n) {
            later.copyFrom(room);
            later.inForce = law;
            for (int i = 0; i < n; i++) {
                rules.passMinute(later, 0, later.sparks - 1);
            }
            return later.heatOfAll();
        }

        /** How many CALLS bring a SPARK that is not GONE HOME; NONE, if none do. */
        int findChain(Room room, int spark) {
            for (int from = 0; from <= MOST_PEOPLE; from++) {
                boolean meant = from == MOST_PEOPLE || from < room.people;
                int cell = from == MOST_PEOPLE ? room.cells[spark] : room.stands[from];
                for (int by = 0; by < MOST_PEOPLE; by++) {
                    able[from * MOST_PEOPLE + by] =
                            meant && by < room.people && rules.comes(room, spark, cell, by);
                }
                callsLeft[from] = NONE;
            }
            for (int calls = 1; calls <= MOST_PEOPLE; calls++) {
                for (int from = 0; from <= MOST_PEOPLE; from++) {
                    if (callsLeft[from] == NONE && nextCaller(room, from, calls) != NONE) {
                        callsLeft[from] = calls;
                    }
                }
            }
            return callsLeft[MOST_PEOPLE];
        }

        /** The PERSON of the i-th CALL of the CHAIN that was found. */
        int callerInChain(Room room, int i) {
            int from = MOST_PEOPLE;
            for (int passed = 0; passed <= i && from != NONE; passed++) {
                from = nextCaller(room, from, callsLeft[from]);
            }
            return from;
        }

        /** The lowest PERSON whose CALL leaves one CALL less to HOME; NONE without. */
        private int nextCaller(Room room, int from, int calls) {
            for (int by = 0; by < room.people; by++) {
                boolean home = room.stands[by] == room.terms[HOME];
                int left = home ? 0 : callsLeft[by];
                if (able[from * MOST_PEOPLE + by] && left == calls - 1) {
                    return by;
                }
            }
            return NONE;
        }

        void driftFor(Room room, int spark, int n) {
            Arrays.fill(parts, 0L);
            int cell = room.cells[spark];
            if (isCell(cell)) {
                parts[cell] = WHOLE;
            }
            for (int i = 0; i < n; i++) {
                driftOnce(room);
            }
        }

        private void driftOnce(Room room) {
            Arrays.fill(nextParts, 0L);
            for (int cell = 0; cell < CELLS; cell++) {
                long share = parts[cell] * room.terms[WIND] / 10;
                long left = parts[cell];
                for (int way = 1; way <= WAYS; way++) {
                    int to = stepFrom(cell, way);
                    if (isCell(to) && room.kinds[to] != WALL) {
                        nextParts[to] += share;
                        left -= share;
                    }
                }
                nextParts[cell] += left;
            }
            long[] before = parts;
            parts = nextParts;
            nextParts = before;
        }

        long driftedTo(int cell) {
            return isCell(cell) ? parts[cell] : NONE;
        }

        int likeliestCell() {
            int best = 0;
            for (int cell = 1; cell < CELLS; cell++) {
                if (parts[cell] > parts[best]) {
                    best = cell;
                }
            }
            return best;
        }

        /** Plays NIGHTS in a room that may be changed: how many CALLS there were. */
        int playNights(Room room, int firstSeed, int n) {
            int calls = 0;
            seed = firstSeed;
            for (int i = 0; i < n && room.terms[MINUTE] < MOST_MINUTE; i++) {
                int spark = draw(room.sparks);
                int person = draw(room.people);
                int deed = draw(3);
                if (deed == 0 && rules.callSpark(room, spark, person) >= 0) {
                    calls++;
                } else if (deed == 1) {
                    room.walkPerson(person, spark % WAYS + 1);
                }
                rules.passMinute(room, 0, room.sparks - 1);
            }
            return calls;
        }

        private int draw(int m) {
            seed = (int) ((seed * 1103L + 12345L) % 1000003L);
            return m > 0 ? seed % m : 0;
        }
    }

    /** What can be told from who KNOWS whom, and from NAMES. */
    private static final class Riddles {
        static int possibleSparks(Room room) {
            int left = (1 << room.sparks) - 1;
            for (int i = 0; i < room.answers; i++) {
                int person = room.asked[i];
                int known = room.hasPerson(person) ? room.known[person] : 0;
                left &= room.replies[i] == 1 ? known : ~known;
            }
            return left;
        }

        static int nextCaller(Room room, int what) {
            int left = possibleSparks(room);
            int all = Integer.bitCount(left);
            int best = NONE;
            int fewest = MOST_SPARKS + 1;
            for (int i = 0; i < room.people && all > 0; i++) {
                int known = Integer.bitCount(left & room.known[i]);
                int more = Math.max(known, all - known);
                if (more < fewest) {
                    fewest = more;
                    best = i;
                }
            }
            return best == NONE || what == 0 ? best : fewest;
        }

        /** The i-th two that is ALIKE, or NONE; for i NONE how many there are. */
        static int alikeTwo(Room room, int i) {
            int found = 0;
            for (int low = 0; low < room.sparks; low++) {
                for (int high = low + 1; high < room.sparks; high++) {
                    if (areAlike(room.names[low], room.names[high])) {
                        if (found == i) {
                            return low * 10 + high;
                        }
                        found++;
                    }
                }
            }
            return i == NONE ? found : NONE;
        }

        /** The fewest SPARKS to be named anew, as bits. */
        static int namedAnew(Room room) {
            int best = (1 << room.sparks) - 1;
            for (int bits = best - 1; bits >= 0; bits--) {
                if (Integer.bitCount(bits) <= Integer.bitCount(best) && othersDiffer(room, bits)) {
                    best = bits;
                }
            }
            return best;
        }

        private static boolean othersDiffer(Room room, int bits) {
            for (int low = 0; low < room.sparks; low++) {
                for (int high = low + 1; high < room.sparks; high++) {
                    boolean bothStay = (bits >> low & 1) == 0 && (bits >> high & 1) == 0;
                    if (bothStay && areAlike(room.names[low], room.names[high])) {
                        return false;
                    }
                }
            }
            return true;
        }

        private static boolean areAlike(int a, int b) {
            return a / 10 == b / 10 || a % 10 == b % 10;
        }

        /** The fewest PEOPLE who guard all though k are away, as bits; NONE, if none do. */
        static int guards(Room room, int k) {
            int best = NONE;
            for (int bits = (1 << room.people) - 1; bits >= 0; bits--) {
                boolean fewer = best == NONE || Integer.bitCount(bits) <= Integer.bitCount(best);
                if (fewer && isGuard(room, bits, k)) {
                    best = bits;
                }
            }
            return best;
        }

        private static boolean isGuard(Room room, int bits, int k) {
            for (int i = 0; i < room.sparks; i++) {
                if (room.cells[i] != NONE && Integer.bitCount(bits & room.knowers(i)) <= k) {
                    return false;
                }
            }
            return true;
        }

        static int lessonsNeeded(Room room, int k) {
            int needed = 0;
            for (int i = 0; i < room.sparks; i++) {
                needed += Math.max(0, k - Integer.bitCount(room.knowers(i)));
            }
            return needed;
        }
    }

    /** The TAPE, and the TOKEN of it at which a reader is. */
    private static final class Tape {
        private static final int BLANK = 32;
        private static final int FED_AT_ONCE = 20;
        static final int AT_END = 0;
        static final int LETTERS = 1;
        static final int DIGITS = 2;
        static final int SIGN = 3;

        private final int[] bytes = new int[MOST_BYTES];
        int size;
        /** The TOKEN: what it is, where it begins, where the next can begin. */
        int sort;
        int from;
        private int to;

        boolean hasSpace() {
            return size + FED_AT_ONCE <= MOST_BYTES;
        }

        void append(int four) {
            for (int shift = 24; shift >= 0 && size < MOST_BYTES; shift -= 8) {
                bytes[size] = four >> shift & 255;
                size++;
            }
        }

        /** A byte; NONE behind the end. */
        int byteAt(int i) {
            return i >= 0 && i < size ? bytes[i] : NONE;
        }

        void toFirst() {
            to = 0;
            toNext();
        }

        void toNext() {
            from = to;
            while (from < size && bytes[from] == BLANK) {
                from++;
            }
            sort = sortOf(byteAt(from));
            to = Math.min(from + 1, size);
            if (sort == LETTERS || sort == DIGITS) {
                while (to < size && sortOf(bytes[to]) == sort) {
                    to++;
                }
            }
        }

        boolean isSign(char sign) {
            return sort == SIGN && byteAt(from) == sign;
        }

        /** Which of these words, with a blank between two, the TOKEN is; NONE, if it is none. */
        int placeIn(String list) {
            int place = 0;
            int letters = 0;
            boolean same = sort == LETTERS;
            for (int i = 0; i <= list.length() && sort == LETTERS; i++) {
                if (i < list.length() && list.charAt(i) != BLANK) {
                    same = same && byteAt(from + letters) == list.charAt(i);
                    letters++;
                } else if (same && letters == to - from) {
                    return place;
                } else {
                    place++;
                    letters = 0;
                    same = true;
                }
            }
            return NONE;
        }

        /** The NUMBER that the TOKEN is, or one more than the highest; NONE, if it is none. */
        int numberTo(int highest) {
            if (sort != DIGITS) {
                return NONE;
            }
            int number = 0;
            for (int i = from; i < to; i++) {
                number = Math.min(number * 10 + byteAt(i) - '0', highest + 1);
            }
            return number;
        }

        private static int sortOf(int value) {
            if (value == NONE) {
                return AT_END;
            }
            if (value >= 'a' && value <= 'z') {
                return LETTERS;
            }
            return value >= '0' && value <= '9' ? DIGITS : SIGN;
        }
    }

    /** A TEXT that was read: its CLAUSES, and their SUMS and TESTS as rows of steps. */
    private static final class Text {
        /** What there is of a CLAUSE: for SUMS and the TEST where their steps start, or NONE. */
        static final int VERB = 0;
        static final int FIRST = 1;
        static final int SECOND = 2;
        static final int TIMES = 3;
        static final int TEST = 4;
        private static final int SLOTS = 5;
        /** A step is what to do, and above these bits the number that goes with it. */
        static final int STEP_BITS = 5;
        static final int STEP_MASK = 31;

        private final int[] heads;
        final int[] steps;
        int clauses;
        int length;

        Text() {
            heads = new int[MOST_CLAUSES * SLOTS];
            steps = new int[MOST_BYTES];
        }

        private Text(Text other) {
            heads = Arrays.copyOf(other.heads, other.clauses * SLOTS);
            steps = Arrays.copyOf(other.steps, other.length);
            clauses = other.clauses;
            length = other.length;
        }

        /** The same in as little space as it needs. */
        Text trimmed() {
            return new Text(this);
        }

        void clear() {
            clauses = 0;
            length = 0;
        }

        void addClause(int verb) {
            int at = clauses * SLOTS;
            if (at + SLOTS <= heads.length) {
                heads[at + VERB] = verb;
                heads[at + FIRST] = NONE;
                heads[at + SECOND] = NONE;
                heads[at + TIMES] = 1;
                heads[at + TEST] = NONE;
                clauses++;
            }
        }

        /** Sets a slot of the last CLAUSE. */
        void setSlot(int slot, int value) {
            int at = (clauses - 1) * SLOTS + slot;
            if (at >= 0 && at < heads.length) {
                heads[at] = value;
            }
        }

        int slot(int clause, int slot) {
            int at = clause * SLOTS + slot;
            return at >= 0 && at < heads.length ? heads[at] : NONE;
        }

        /** A TOKEN makes at most one step, so that there is always space. */
        void addStep(int what, int number) {
            if (length < steps.length) {
                steps[length] = number << STEP_BITS | what;
                length++;
            }
        }

        /** Gives a step the place behind the last one as its number. */
        void aimHere(int step) {
            if (step >= 0 && step < length) {
                steps[step] = length << STEP_BITS | steps[step] & STEP_MASK;
            }
        }
    }

    /** Works the steps of SUMS and TESTS. */
    private static final class Calculator {
        static final int ENDS = 0;
        static final int NUMBER = 1;
        static final int WORD = 2;
        static final int PLUS = 3;
        static final int MINUS = 4;
        static final int TIMES = 5;
        static final int BY = 6;
        static final int REST = 7;
        static final int LESS = 8;
        static final int MORE = 9;
        static final int SAME = 10;
        static final int NOT = 11;
        /** If it is not so (AND), is so (OR), what stands behind can't matter: on to a later step. */
        static final int AND = 12;
        static final int OR = 13;

        private final int[] stack = new int[MOST_PARTS + 2];

        /** The value of a SUM, of a TEST (1, 0), whose steps start there; BROKEN. */
        int value(Text text, int start, int[] words) {
            int top = -1;
            int end = Math.min(text.length, text.steps.length);
            for (int at = Math.max(0, start); at < end; at++) {
                int what = text.steps[at] & Text.STEP_MASK;
                int number = text.steps[at] >> Text.STEP_BITS;
                if (what == NUMBER || what == WORD) {
                    top++;
                    if (top >= stack.length || (what == WORD && number >= words.length)) {
                        return BROKEN;
                    }
                    stack[top] = what == WORD ? words[number] : number;
                } else if (top < 0 || what == ENDS) {
                    return top < 0 ? BROKEN : stack[top];
                } else if (what == NOT) {
                    stack[top] = 1 - stack[top];
                } else if (what == AND || what == OR) {
                    if (stack[top] == (what == OR ? 1 : 0)) {
                        at = Math.max(at, number - 1);
                    } else {
                        top--;
                    }
                } else {
                    top--;
                    long made = top < 0 ? BROKEN : joined(what, stack[top], stack[top + 1]);
                    if (made < -MOST_VALUE || made > MOST_VALUE) {
                        return BROKEN;
                    }
                    stack[top] = (int) made;
                }
            }
            return BROKEN;
        }

        private static long joined(int what, long a, long b) {
            switch (what) {
                case PLUS:
                    return a + b;
                case MINUS:
                    return a - b;
                case TIMES:
                    return a * b;
                case BY:
                    return b == 0 ? BROKEN : a / b;
                case REST:
                    return b == 0 ? BROKEN : a % b;
                case LESS:
                    return a < b ? 1 : 0;
                case MORE:
                    return a > b ? 1 : 0;
                case SAME:
                    return a == b ? 1 : 0;
                default:
                    return BROKEN;
            }
        }
    }

    /**
     * Reads TEXTS of both languages. What waits for what stands behind it is on a stack of its own,
     * so that no TEXT makes it call itself. A method that answers false has met the FAULT: the TOKEN
     * at which the TAPE then is.
     */
    private static final class Parser {
        /** What can wait beside steps of the Calculator: the begin of a SUM, of a TEST, brackets. */
        private static final int SUM_BEGIN = 20;
        private static final int TEST_BEGIN = 21;
        private static final int SQUARE = 22;
        private static final int ROUND = 23;
        /** How closely steps bind: SUMS and above are those within a SUM. */
        private static final int ORS = 1;
        private static final int ANDS = 2;
        private static final int NOTS = 3;
        private static final int COMPARES = 4;
        private static final int SUMS = 5;
        private static final int PRODUCTS = 6;
        /** Above all that 50 PARTS and 8 brackets can leave waiting. */
        private static final int MOST_WAITING = 160;

        private final Tape tape;
        final Text text = new Text();
        private final int[] waiting = new int[MOST_WAITING];
        /** Of "and", "or" that wait the step that must learn where to go on. */
        private final int[] steps = new int[MOST_WAITING];
        private int height;
        private int brackets;
        private int parts;
        private boolean ordering;
        /** Whether what was read last is a TEST in brackets, not a PART. */
        private boolean tested;

        Parser(Tape tape) {
            this.tape = tape;
        }

        /** Reads the TAPE into the text: the FAULT's place, NONE without. */
        int read(boolean asOrders) {
            ordering = asOrders;
            parts = 0;
            text.clear();
            tape.toFirst();
            for (int i = 0; i < MOST_CLAUSES; i++) {
                boolean stands = asOrders ? readOrder() : readLaw();
                if (stands && tape.sort == Tape.AT_END) {
                    return NONE;
                }
                if (!stands || !tape.isSign(';')) {
                    return tape.from;
                }
                tape.toNext();
            }
            return tape.from;
        }

        private boolean readLaw() {
            int verb = tape.placeIn(LAW_VERBS);
            if (verb == NONE) {
                return false;
            }
            text.addClause(verb);
            tape.toNext();
            boolean sums = verb == GOES || verb == BURNS;
            return (!sums || readValue(Text.FIRST)) && (!takes("if") || readValue(Text.TEST));
        }

        private boolean readOrder() {
            int verb = tape.placeIn(ORDER_VERBS);
            if (verb == NONE) {
                return false;
            }
            text.addClause(verb);
            tape.toNext();
            if (verb != PASS && !readValue(Text.FIRST)) {
                return false;
            }
            boolean two = verb == CALL || verb == WALK;
            if (two && !(takes(verb == CALL ? "by" : "to") && readValue(Text.SECOND))) {
                return false;
            }
            return (!takes("times") || readTimes()) && (!takes("if") || readValue(Text.TEST));
        }

        private boolean takes(String word) {
            boolean there = tape.placeIn(word) != NONE;
            if (there) {
                tape.toNext();
            }
            return there;
        }

        private boolean readTimes() {
            int times = tape.numberTo(MOST_TIMES);
            if (!isWithin(times, 1, MOST_TIMES)) {
                return false;
            }
            text.setSlot(Text.TIMES, times);
            tape.toNext();
            return true;
        }

        /** Reads a TEST for that slot, a SUM for the others. */
        private boolean readValue(int slot) {
            text.setSlot(slot, text.length);
            height = 0;
            brackets = 0;
            boolean wanted = push(slot == Text.TEST ? TEST_BEGIN : SUM_BEGIN);
            for (int i = 0; i <= MOST_BYTES; i++) {
                if (wanted) {
                    if (!opens()) {
                        if (!readPart()) {
                            return false;
                        }
                        wanted = false;
                    }
                } else if (joins()) {
                    wanted = true;
                } else if (!closes()) {
                    return isWhole();
                }
            }
            return false;
        }

        /** Reads what can stand ahead of a PART: "not" and brackets that open. */
        private boolean opens() {
            boolean not = tape.placeIn("not") != NONE;
            boolean round = tape.isSign('(');
            if (!not && !round && !tape.isSign('[')) {
                return false;
            }
            if ((not || round) && !canTestBegin()) {
                return false;
            }
            if (not && top() == Calculator.NOT) {
                height--;
            } else if ((!not && brackets >= MOST_BRACKETS)
                    || !push(not ? Calculator.NOT : round ? ROUND : SQUARE)) {
                return false;
            }
            brackets += not ? 0 : 1;
            tape.toNext();
            return true;
        }

        private boolean readPart() {
            if (parts >= MOST_PARTS) {
                return false;
            }
            int number = tape.numberTo(MOST_NUMBER);
            if (number == NONE) {
                int word = tape.placeIn(ordering ? ORDER_WORDS : LAW_WORDS);
                if (word == NONE) {
                    return false;
                }
                if (ordering && word >= FIRST_OF_SPARK) {
                    tape.toNext();
                    int spark = tape.numberTo(MOST_SPARKS - 1);
                    if (!isWithin(spark, 0, MOST_SPARKS - 1)) {
                        return false;
                    }
                    word = FIRST_OF_SPARK + (word - FIRST_OF_SPARK) * MOST_SPARKS + spark;
                }
                text.addStep(Calculator.WORD, word);
            } else if (number > MOST_NUMBER) {
                return false;
            } else {
                text.addStep(Calculator.NUMBER, number);
            }
            parts++;
            tested = false;
            tape.toNext();
            return true;
        }

        /** Reads what joins what was read to what must stand behind. */
        private boolean joins() {
            int step = joiningStep();
            int binding = bindingOf(step);
            if (binding >= SUMS && !tested) {
                fold(binding);
            } else if (binding == COMPARES && !tested) {
                fold(SUMS);
                if (!canTestBegin()) {
                    return false;
                }
            } else if ((binding == ANDS || binding == ORS) && isTest()) {
                fold(binding);
            } else {
                return false;
            }
            if (!push(step)) {
                return false;
            }
            if (binding == ANDS || binding == ORS) {
                steps[height - 1] = text.length;
                text.addStep(step, 0);
            }
            tape.toNext();
            return true;
        }

        private boolean closes() {
            boolean round = tape.isSign(')');
            if (round ? !isTest() : !tape.isSign(']')) {
                return false;
            }
            fold(round ? ORS : SUMS);
            if (top() != (round ? ROUND : SQUARE)) {
                return false;
            }
            height--;
            brackets--;
            tested = round;
            tape.toNext();
            return true;
        }

        /** Whether the SUM or TEST can end here; then its steps do. */
        private boolean isWhole() {
            fold(SUMS);
            if (top() != SUM_BEGIN) {
                if (!isTest()) {
                    return false;
                }
                fold(ORS);
                if (top() != TEST_BEGIN) {
                    return false;
                }
            }
            text.addStep(Calculator.ENDS, 0);
            return true;
        }

        /** Whether what was read last ends a PLAIN. */
        private boolean isTest() {
            fold(SUMS);
            return tested || bindingOf(top()) == COMPARES;
        }

        private boolean canTestBegin() {
            int top = top();
            return top == TEST_BEGIN || top == ROUND || isWithin(bindingOf(top), ORS, NOTS);
        }

        /** Takes from the stack what binds so closely or closer: it has all that it waited for. */
        private void fold(int least) {
            for (; height > 0 && bindingOf(top()) >= least; height--) {
                int step = top();
                if (step == Calculator.AND || step == Calculator.OR) {
                    text.aimHere(steps[height - 1]);
                } else {
                    text.addStep(step, 0);
                }
            }
        }

        private boolean push(int what) {
            if (height >= MOST_WAITING) {
                return false;
            }
            waiting[height] = what;
            height++;
            return true;
        }

        private int top() {
            return height > 0 && height <= MOST_WAITING ? waiting[height - 1] : NONE;
        }

        private static int bindingOf(int step) {
            switch (step) {
                case Calculator.OR:
                    return ORS;
                case Calculator.AND:
                    return ANDS;
                case Calculator.NOT:
                    return NOTS;
                case Calculator.LESS:
                case Calculator.MORE:
                case Calculator.SAME:
                    return COMPARES;
                case Calculator.PLUS:
                case Calculator.MINUS:
                    return SUMS;
                case Calculator.TIMES:
                case Calculator.BY:
                case Calculator.REST:
                    return PRODUCTS;
                default:
                    return 0;
            }
        }

        /** The step that the TOKEN stands for; NONE, if it joins nothing. */
        private int joiningStep() {
            if (tape.sort == Tape.LETTERS) {
                int word = tape.placeIn("and or");
                return word == NONE ? NONE : word == 0 ? Calculator.AND : Calculator.OR;
            }
            switch (tape.byteAt(tape.from)) {
                case '+':
                    return Calculator.PLUS;
                case '-':
                    return Calculator.MINUS;
                case '*':
                    return Calculator.TIMES;
                case '/':
                    return Calculator.BY;
                case '%':
                    return Calculator.REST;
                case '<':
                    return Calculator.LESS;
                case '>':
                    return Calculator.MORE;
                case '=':
                    return Calculator.SAME;
                default:
                    return NONE;
            }
        }
    }
}
