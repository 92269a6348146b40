import java.math.BigInteger;

/**
 * Promises 15 to 25: of each sentence that names a bound, a refusal, or something empty or full, the bound
 * itself, one below it and one above it; the order of refusals; and that nothing has changed behind them.
 */
public final class TalkBoundsTest extends Desk {
    /** Numbers that name no OFFICE. */
    private static final int[] NOBODY = {MIN, -2, -1, 3, 4, MAX};

    public static void main(String[] args) {
        seatRefused();
        seatOfItself();
        seatBeginsAnew();
        seatOfNone();
        postRefused();
        postOfEach();
        postBeginsAnew();
        as();
        roomRefused();
        roomOfKinds();
        begin();
        steps();
        waysOfSends();
        waysOfWaits();
        firstOrAny();
        stepAndGo();
        runRefused();
        runEnds();
        runBySeed();
        at();
        liesRefused();
        liesInOrder();
        liesInHeap();
        close("TalkBoundsTest");
    }

    /** In the midst of a talk: books 0 to 4, 0 and 1 at desks, letters in posts, steps done, signs on the page. */
    static LetterTurns busy() {
        LetterTurns x = talk("{!1a+!1b}*;!2c", "{?0b+?0a}*");
        book(x, "!0a;?1b");
        book(x, "!1d;?2a");
        book(x, row("!1a", 14) + ";?2a");
        one(x, "01a;12b");
        x.post(0, 1, 4);
        x.post(2, 1, 1);
        x.room(3);
        write(x, "{!0");
        due("go(1)", x.go(1), 2);
        due("go(0)", x.go(0), 1);
        due("go(3)", x.go(3), 101);
        return x;
    }

    // ---- 15

    private static void seatRefused() {
        of("15 seat: refusals");
        LetterTurns x = busy();
        for (int office : NOBODY) {
            for (int book : new int[] {-2, NONE, 0, 2, 5}) {
                idle(x, "seat(" + office + ", " + book + ")", () -> x.seat(office, book), UNKNOWN);
            }
        }
        for (int book : new int[] {MIN, -3, -2, 5, 6, 8, MAX}) {
            for (int office = 0; office < 3; office++) {
                int o = office;
                idle(x, "seat(" + office + ", " + book + ")", () -> x.seat(o, book), UNKNOWN);
            }
        }
        due("count(3)", x.count(3), 3);
        LetterTurns empty = new LetterTurns();
        idle(empty, "seat(0, 0) without books", () -> empty.seat(0, 0), UNKNOWN);
        idle(empty, "seat(0, NONE)", () -> empty.seat(0, NONE), NONE);
    }

    private static void seatOfItself() {
        of("15 seat: it writes to itself in it");
        LetterTurns x = busy();
        idle(x, "a book that writes to 0", () -> x.seat(0, 2), STATE);
        idle(x, "and waits for 1", () -> x.seat(1, 2), STATE);
        idle(x, "a book that writes to 1", () -> x.seat(1, 3), STATE);
        idle(x, "and waits for 2", () -> x.seat(2, 3), STATE);
        idle(x, "the 15th act waits for 2", () -> x.seat(2, 4), STATE);
        idle(x, "UNKNOWN ahead of STATE", () -> x.seat(3, 2), UNKNOWN);
        due("it may be 2's", x.seat(2, 2), NONE);
        due("it may be 0's", x.seat(0, 3), 0);
        due("it may be 0's", x.seat(0, 4), 3);
        for (int office = 0; office < 3; office++) {
            for (int named = 0; named < 3; named++) {
                LetterTurns y = shelf("!" + named + "a", "?" + named + "a");
                due("!" + named + "a for " + office, y.seat(office, 0), office == named ? STATE : NONE);
                due("?" + named + "a for " + office, y.seat(office, 1), office == named ? STATE : 0);
            }
        }
    }

    private static void begun(LetterTurns x) {
        due("no steps done", x.count(3), 0);
        due("no letters lie", x.count(4), 0);
        due("lies(0, 1, 0)", x.lies(0, 1, 0), NONE);
        due("begin()", x.begin(), 0);
    }

    private static void seatBeginsAnew() {
        of("15 seat: the talk begins anew");
        LetterTurns x = busy();
        due("the same again", x.seat(0, 0), 0);
        begun(x);
        due("at(0)", x.at(0), 0);
        due("at(1)", x.at(1), 0);
        due("room stays", x.room(2), 3);
        due("kinds stay", x.post(0, 1, 4), 4);
        x.go(0);
        due("somebody else's book", x.seat(2, 2), NONE);
        begun(x);
        due("at(0)", x.at(0), 0);
        due("at(2)", x.at(2), 0);
        due("one book for two", x.seat(0, 1), STATE);
        due("one book for two", x.seat(2, 1), 2);
        due("one book for two", x.seat(1, 1), 1);
        due("what it had", x.seat(2, 0), STATE);
        due("what it had", x.seat(2, NONE), 1);
    }

    private static void seatOfNone() {
        of("15 seat: none");
        LetterTurns x = busy();
        due("seat(0, NONE)", x.seat(0, NONE), 0);
        begun(x);
        due("at(0)", x.at(0), NONE);
        due("at(1)", x.at(1), 0);
        due("nothing is to do", x.steps(), 0);
        due("seat(0, NONE)", x.seat(0, NONE), NONE);
        due("seat(1, NONE)", x.seat(1, NONE), 1);
        due("at(1)", x.at(1), NONE);
        nows(x, 0, 0, 0, 0, 1);
        due("the books stay", x.count(0), 5);
        due("back again", x.seat(1, 1), NONE);
        LetterTurns y = talk("!1a;!1b");
        y.go(0);
        due("none where there was none", y.seat(2, NONE), NONE);
        begun(y);
    }

    // ---- 16

    private static void postRefused() {
        of("16 post: refusals");
        LetterTurns x = busy();
        for (int office : NOBODY) {
            idle(x, "post(" + office + ", 1, 0)", () -> x.post(office, 1, 0), UNKNOWN);
            idle(x, "post(1, " + office + ", 0)", () -> x.post(1, office, 0), UNKNOWN);
            idle(x, "post(" + office + ", itself, 0)", () -> x.post(office, office, 0), UNKNOWN);
            idle(x, "post(" + office + ", 1, 5): UNKNOWN ahead of OUTSIDE", () -> x.post(office, 1, 5), UNKNOWN);
            idle(x, "post(1, " + office + ", -1): UNKNOWN ahead of OUTSIDE", () -> x.post(1, office, -1), UNKNOWN);
        }
        for (int office = 0; office < 3; office++) {
            int o = office;
            idle(x, "post(" + o + ", " + o + ", 0)", () -> x.post(o, o, 0), UNKNOWN);
            idle(x, "post(" + o + ", " + o + ", 5): UNKNOWN ahead of OUTSIDE", () -> x.post(o, o, 5), UNKNOWN);
        }
        for (int kind : new int[] {MIN, -2, -1, 5, 6, MAX}) {
            idle(x, "post(0, 1, " + kind + ")", () -> x.post(0, 1, kind), OUTSIDE);
            idle(x, "post(2, 0, " + kind + ")", () -> x.post(2, 0, kind), OUTSIDE);
        }
        due("count(3)", x.count(3), 3);
    }

    private static void postOfEach() {
        of("16 post: each by itself");
        LetterTurns x = new LetterTurns();
        int[][] kinds = new int[3][3];
        for (int turn = 1; turn <= 5; turn++) {
            for (int from = 0; from < 3; from++) {
                for (int to = 0; to < 3; to++) {
                    if (from != to) {
                        int kind = (turn * (1 + from) + to) % 5;
                        due("post(" + from + ", " + to + ", " + kind + ")", x.post(from, to, kind), kinds[from][to]);
                        kinds[from][to] = kind;
                    }
                }
            }
        }
        for (int kind = 0; kind <= 4; kind++) {
            x.post(1, 2, kind);
            due("the same again", x.post(1, 2, kind), kind);
        }
    }

    private static void postBeginsAnew() {
        of("16 post: the talk begins anew");
        LetterTurns x = busy();
        due("another one's kind", x.post(2, 1, 2), 1);
        begun(x);
        due("at(0)", x.at(0), 0);
        due("its book stays", x.seat(0, 0), 0);
        x.go(0);
        due("the same kind", x.post(0, 1, 4), 4);
        begun(x);
        due("room stays", x.room(3), 3);
    }

    // ---- 17

    private static void as() {
        of("17 as");
        LetterTurns x = busy();
        for (int office : NOBODY) {
            for (int kind : new int[] {-1, 0, 5}) {
                idle(x, "as(" + office + ", 1, " + kind + ")", () -> x.as(office, 1, kind), UNKNOWN);
                idle(x, "as(1, " + office + ", " + kind + ")", () -> x.as(1, office, kind), UNKNOWN);
            }
        }
        LetterTurns y = busy();
        for (int office = 0; office < 3; office++) {
            int o = office;
            idle(y, "as(" + o + ", " + o + ", 0)", () -> y.as(o, o, 0), UNKNOWN);
            idle(y, "as(" + o + ", " + o + ", 5): UNKNOWN ahead of OUTSIDE", () -> y.as(o, o, 5), UNKNOWN);
        }
        for (int kind : new int[] {MIN, -2, -1, 5, 6, MAX}) {
            idle(y, "as(0, 1, " + kind + ")", () -> y.as(0, 1, kind), OUTSIDE);
        }
        idle(y, "a TWICE as a LOST", () -> y.as(0, 1, 3), 1);
        idle(y, "a HEAP as a POST", () -> y.as(2, 1, 0), 21);
        idle(y, "a HEAP as a LOST", () -> y.as(2, 1, 3), NONE);
        idle(y, "a POST as a HEAP", () -> y.as(1, 2, 1), NONE);
        y.post(0, 1, 3);
        idle(y, "a LOST as a TWICE", () -> y.as(0, 1, 4), NONE);
        due("a LOST as a LOST", y.as(0, 1, 3), 1);
        for (int from = 0; from < 3; from++) {
            for (int to = 0; to < 3; to++) {
                if (from != to) {
                    due("as(" + from + ", " + to + ", 0)", y.as(from, to, 0), 10 * from + to);
                }
            }
        }
    }

    // ---- 18

    private static void roomRefused() {
        of("18 room");
        LetterTurns x = busy();
        for (int v : new int[] {MIN, -1, 0, 4, 5, MAX}) {
            idle(x, "room(" + v + ")", () -> x.room(v), OUTSIDE);
        }
        due("count(3)", x.count(3), 3);
        due("the same again", x.room(3), 3);
        begun(x);
        due("at(0)", x.at(0), 0);
        x.go(0);
        due("room(1)", x.room(1), 3);
        begun(x);
        due("room(2)", x.room(2), 1);
        due("kinds stay", x.post(0, 1, 0), 4);
        due("books stay", x.seat(1, 1), 1);
    }

    /** Of each KIND as many letters as there is room for, and no more. */
    private static void roomOfKinds() {
        of("18 room of each kind");
        LetterTurns x = talk("{!1a}*");
        for (int v = 1; v <= 3; v++) {
            x.room(v);
            for (int kind = 0; kind <= 4; kind++) {
                x.post(0, 1, kind);
                int holds = kind == 2 ? 1 : v;
                for (int letter = 0; letter < holds; letter++) {
                    due("room " + v + ", kind " + kind + ": steps()", x.steps(), kind == 3 ? 2 : 1);
                    due("go(0)", x.go(0), 1);
                }
                due("room " + v + ", kind " + kind + ": full", x.steps(), 0);
                due("count(4)", x.count(4), holds);
                due("most(0, 1)", x.most(0, 1), holds);
            }
        }
        due("other posts have their own", x.post(0, 1, 0), 4);
        LetterTurns y = talk("!1a;!2a;!1a;!2a;!1a", "!0a;!2a");
        due("run", y.run(1, 200), 6);
        due("the fifth has no room", y.at(0), 4);
        due("count(4)", y.count(4), 6);
    }

    // ---- 19 and 20

    private static void begin() {
        of("19 begin");
        LetterTurns x = busy();
        due("begin()", x.begin(), 3);
        due("at(0)", x.at(0), 0);
        due("at(1)", x.at(1), 0);
        due("at(2)", x.at(2), NONE);
        due("kinds stay", x.as(0, 1, 4), 1);
        due("the page stays", x.count(2), 3);
        due("begin() again", x.begin(), 0);
        due("run(1, 200)", x.run(1, 200), x.count(3));
        due("books stay", x.seat(0, 0), 0);
        LetterTurns y = talk("{!1a}*", "{?0a}*");
        y.run(1, 200);
        y.run(2, 200);
        due("400", y.begin(), 400);
        due("an object without books", new LetterTurns().begin(), 0);
    }

    private static void steps() {
        of("20 steps");
        LetterTurns x = busy();
        idle(x, "steps()", x::steps, 5);
        idle(x, "step(0)", () -> x.step(0), 1);
        idle(x, "step(1)", () -> x.step(1), 2);
        idle(x, "step(2)", () -> x.step(2), 3);
        idle(x, "step(3)", () -> x.step(3), 102);
        idle(x, "step(4)", () -> x.step(4), 1102);
        LetterTurns y = talk("!1a", "{?0a+!2b}", "{!0a+!1a}");
        int[] want = {1, 102, 201, 202};
        for (int k = 0; k < 4; k++) {
            due("of offices 0, 1, 2: step(" + k + ")", y.step(k), want[k]);
        }
        due("no step at the end of a row", talk("!1a").steps(), 1);
        LetterTurns z = talk("!1a");
        z.go(0);
        due("no step behind the last act", z.steps(), 0);
    }

    private static void waysOfSends() {
        of("20 ways of sends");
        LetterTurns x = talk("{!1a+!1b}*", "");
        int[] ways = {2, 2, 2, 4, 2};
        for (int kind = 0; kind <= 4; kind++) {
            x.post(0, 1, kind);
            due("kind " + kind, x.steps(), ways[kind]);
        }
        x.post(0, 1, 3);
        x.room(1);
        int[] want = {1, 1001, 2, 1002};
        for (int k = 0; k < 4; k++) {
            due("step(" + k + ")", x.step(k), want[k]);
        }
        due("it is lost", x.go(3), 1002);
        due("at(0)", x.at(0), 2);
        due("count(4)", x.count(4), 0);
        due("count(3)", x.count(3), 1);
        due("it lies", x.go(0), 1);
        due("count(4)", x.count(4), 1);
        due("none is lost without room", x.steps(), 0);
        due("the other post is another one", x.post(1, 0, 3), 0);
    }

    private static void waysOfWaits() {
        of("20 ways of waits");
        LetterTurns x = talk("!1a", "?0a");
        int[] ways = {1, 1, 1, 1, 2};
        for (int kind = 0; kind <= 4; kind++) {
            x.post(0, 1, kind);
            due("nobody can read yet", x.step(kind == 3 ? 2 : 1), NONE);
            x.go(0);
            due("kind " + kind, x.steps(), ways[kind]);
            due("step(0)", x.step(0), 101);
            due("step(1)", x.step(1), kind == 4 ? 1101 : NONE);
            due("go(0)", x.go(0), 101);
            due("it is taken out", x.count(4), 0);
            due("at(1)", x.at(1), 1);
        }
        x.begin();
        x.go(0);
        due("go(1)", x.go(1), 1101);
        due("it stays", x.lies(0, 1, 0), 0);
        due("at(1)", x.at(1), 1);
        due("an orphan", x.now(1), 1);
    }

    private static void firstOrAny() {
        of("20 the first one, or any of a heap");
        String all = "{?0a+?0b+?0c}";
        for (int kind = 0; kind <= 4; kind++) {
            if (kind != 2) {
                LetterTurns x = talk("!1c;!1a;!1c", all + ";" + all + ";" + all);
                x.post(0, 1, kind);
                x.room(3);
                x.go(0);
                x.go(0);
                x.go(0);
                due("kind " + kind, x.step(0), kind == 1 ? 101 : 103);
                due("the next", x.step(1), kind == 1 ? 103 : kind == 4 ? 1103 : NONE);
                due("go", x.go(0), kind == 1 ? 101 : 103);
                due("then", x.step(0), kind == 1 ? 106 : 104);
                x.go(0);
                due("one is left", x.count(4), 1);
                due("the last", x.go(0), 109);
                due("none is left", x.count(4), 0);
            }
        }
    }

    // ---- 21 and 22

    private static void stepAndGo() {
        of("21 step, 22 go");
        LetterTurns x = busy();
        for (int k : new int[] {MIN, -2, -1, 5, 6, MAX}) {
            idle(x, "step(" + k + ")", () -> x.step(k), NONE);
            idle(x, "go(" + k + ")", () -> x.go(k), STATE);
        }
        due("count(3)", x.count(3), 3);
        due("step(4)", x.step(4), 1102);
        due("go(4)", x.go(4), 1102);
        due("count(3)", x.count(3), 4);
        due("at(1)", x.at(1), 2);
        LetterTurns empty = new LetterTurns();
        for (int k : new int[] {-1, 0, 1}) {
            idle(empty, "step(" + k + ") of none", () -> empty.step(k), NONE);
            idle(empty, "go(" + k + ") of none", () -> empty.go(k), STATE);
        }
        LetterTurns y = talk("!1a");
        idle(y, "one step: step(1)", () -> y.step(1), NONE);
        idle(y, "one step: go(1)", () -> y.go(1), STATE);
        due("one step: step(0)", y.step(0), 1);
        due("one step: go(0)", y.go(0), 1);
        idle(y, "no step more: step(0)", () -> y.step(0), NONE);
        idle(y, "no step more: go(0)", () -> y.go(0), STATE);
        due("count(3)", y.count(3), 1);
    }

    // ---- 23

    private static void runRefused() {
        of("23 run: refusals");
        LetterTurns x = busy();
        for (int seed : new int[] {MIN, MIN + 1, -2, -1}) {
            for (int n : new int[] {0, 1, 200, 201}) {
                idle(x, "run(" + seed + ", " + n + ")", () -> x.run(seed, n), OUTSIDE);
            }
        }
        for (int n : new int[] {MIN, -1, 0, 201, 202, MAX}) {
            for (int seed : new int[] {0, 1, MAX}) {
                idle(x, "run(" + seed + ", " + n + ")", () -> x.run(seed, n), OUTSIDE);
            }
        }
        due("count(3)", x.count(3), 3);
        LetterTurns empty = new LetterTurns();
        idle(empty, "run(0, 1) of none", () -> empty.run(0, 1), 0);
        idle(empty, "run(MAX, 200) of none", () -> empty.run(MAX, 200), 0);
        idle(empty, "run(0, 0) of none", () -> empty.run(0, 0), OUTSIDE);
        idle(empty, "run(-1, 1) of none", () -> empty.run(-1, 1), OUTSIDE);
    }

    private static void runEnds() {
        of("23 run: n at most, as long as there are some");
        LetterTurns x = talk("{!1a}*", "{?0a}*");
        for (int n : new int[] {1, 2, 3, 199, 200}) {
            x.begin();
            due("run(0, " + n + ")", x.run(0, n), n);
            due("count(3)", x.count(3), n);
            due("run(MAX, " + n + ")", x.run(MAX, n), n);
            due("count(3)", x.count(3), 2 * n);
        }
        LetterTurns y = talk(row("!1a", 5), row("?0a", 5));
        for (int n : new int[] {9, 10, 11, 200}) {
            y.begin();
            due("10 steps, run(5, " + n + ")", y.run(5, n), Math.min(n, 10));
            due("then", y.run(5, 200), Math.max(0, 10 - n));
            due("then", y.run(5, 200), 0);
            due("count(3)", y.count(3), 10);
        }
    }

    private static LetterTurns wide() {
        LetterTurns x = talk("{!1a+!1b+!2c}*", "{?0a+?0b+!2a}*", "{?0c+?1a+!1d}*");
        x.post(0, 1, 3);
        x.post(0, 2, 4);
        x.post(1, 2, 1);
        return x;
    }

    /** The seed by whole numbers of any size: nothing can wrap there. */
    private static void runBySeed() {
        of("23 run: by seed");
        for (int seed : new int[] {0, 1, 2, 65535, 65536, 1073741823, 1073741824, MAX - 1, MAX}) {
            LetterTurns x = wide();
            LetterTurns y = wide();
            BigInteger s = BigInteger.valueOf(seed);
            int done = 0;
            while (done < 60 && y.steps() > 0) {
                s = s.multiply(BigInteger.valueOf(1103515245)).add(BigInteger.valueOf(12345)).mod(BigInteger.ONE.shiftLeft(31));
                y.go(s.divide(BigInteger.valueOf(65536)).mod(BigInteger.valueOf(y.steps())).intValue());
                done++;
            }
            due("run(" + seed + ", 60)", x.run(seed, 60), done);
            due("digest()", x.digest(), y.digest());
        }
        // 12345 by 65536 is 0; then 1406932606, 654583775, 1449466924
        LetterTurns x = wide();
        due("five ways", x.steps(), 7);
        due("the first by seed 0", x.step(0), 1);
        LetterTurns y = wide();
        y.run(0, 1);
        due("at(0)", y.at(0), 1);
        due("lies(0, 1, 0)", y.lies(0, 1, 0), 0);
    }

    // ---- 24

    private static void at() {
        of("24 at");
        LetterTurns x = busy();
        for (int office : NOBODY) {
            idle(x, "at(" + office + ")", () -> x.at(office), UNKNOWN);
        }
        idle(x, "at(0)", () -> x.at(0), 1);
        idle(x, "at(1)", () -> x.at(1), 1);
        idle(x, "at(2)", () -> x.at(2), NONE);
        LetterTurns y = talk("", "{?2a}*", row("!1a", 15));
        due("run", y.run(3, 200), 30);
        due("place 15", y.at(2), 15);
        due("place 1", y.at(1), 1);
        due("at(0)", y.at(0), NONE);
        due("a book of nothing", ofNothing().at(2), 0);
    }

    private static LetterTurns ofNothing() {
        LetterTurns x = new LetterTurns();
        one(x, "01a");
        x.own(0, 2);
        x.seat(2, 0);
        return x;
    }

    // ---- 25

    private static void liesRefused() {
        of("25 lies: refusals");
        LetterTurns x = busy();
        for (int office : NOBODY) {
            for (int i : new int[] {-1, 0}) {
                idle(x, "lies(" + office + ", 1, " + i + ")", () -> x.lies(office, 1, i), UNKNOWN);
                idle(x, "lies(0, " + office + ", " + i + ")", () -> x.lies(0, office, i), UNKNOWN);
            }
        }
        LetterTurns y = busy();
        for (int office = 0; office < 3; office++) {
            int o = office;
            idle(y, "lies(" + o + ", " + o + ", 0)", () -> y.lies(o, o, 0), UNKNOWN);
        }
        for (int i : new int[] {MIN, -2, -1, 1, 2, 3, 4, MAX}) {
            idle(y, "lies(0, 1, " + i + ")", () -> y.lies(0, 1, i), NONE);
        }
        idle(y, "lies(0, 1, 0)", () -> y.lies(0, 1, 0), 0);
        for (int i : new int[] {-1, 0, 1}) {
            idle(y, "an empty one: lies(1, 0, " + i + ")", () -> y.lies(1, 0, i), NONE);
            idle(y, "an empty heap: lies(2, 1, " + i + ")", () -> y.lies(2, 1, i), NONE);
        }
    }

    private static void liesInOrder() {
        of("25 lies: in order");
        for (int kind : new int[] {0, 3, 4}) {
            LetterTurns x = talk("!1d;!1a;!1c", "?0d;?0a");
            x.post(0, 1, kind);
            x.room(3);
            int[] want = {3, 0, 2};
            for (int sent = 1; sent <= 3; sent++) {
                x.go(0);
                for (int i = 0; i <= 3; i++) {
                    due("kind " + kind + ", " + sent + " sent: lies(0, 1, " + i + ")", x.lies(0, 1, i), i < sent ? want[i] : NONE);
                }
            }
            due("the first is taken out", x.go(0), 101);
            due("lies(0, 1, 0)", x.lies(0, 1, 0), 0);
            due("lies(0, 1, 1)", x.lies(0, 1, 1), 2);
            due("lies(0, 1, 2)", x.lies(0, 1, 2), NONE);
        }
        LetterTurns y = talk("!2b", "!2c", "{!0a+!1d}*");
        y.go(0);
        y.go(0);
        y.go(0);
        y.go(1);
        due("from 0 to 2", y.lies(0, 2, 0), 1);
        due("from 1 to 2", y.lies(1, 2, 0), 2);
        due("from 2 to 0", y.lies(2, 0, 0), 0);
        due("from 2 to 1", y.lies(2, 1, 0), 3);
        due("from 0 to 1", y.lies(0, 1, 0), NONE);
        due("from 1 to 0", y.lies(1, 0, 0), NONE);
    }

    private static void liesInHeap() {
        of("25 lies: in a heap by letters");
        LetterTurns x = talk("!1d;!1b;!1d;!1a", "{?0d+?0b}*");
        x.post(0, 1, 1);
        x.room(3);
        x.go(0);
        due("d", x.lies(0, 1, 0), 3);
        due("d", x.lies(0, 1, 1), NONE);
        x.go(0);
        due("b, d", x.lies(0, 1, 0), 1);
        due("b, d", x.lies(0, 1, 1), 3);
        x.go(0);
        due("b, d, d", x.lies(0, 1, 0), 1);
        due("b, d, d", x.lies(0, 1, 1), 3);
        due("b, d, d", x.lies(0, 1, 2), 3);
        due("b, d, d", x.lies(0, 1, 3), NONE);
        due("b, d, d", x.lies(0, 1, -1), NONE);
        due("one d is taken out", x.go(0), 101);
        due("b, d", x.lies(0, 1, 0), 1);
        due("b, d", x.lies(0, 1, 1), 3);
        due("b, d", x.lies(0, 1, 2), NONE);
        due("a", x.go(0), 4);
        due("a, b, d", x.lies(0, 1, 0), 0);
        due("a, b, d", x.lies(0, 1, 1), 1);
        due("a, b, d", x.lies(0, 1, 2), 3);
        LetterTurns y = talk(row("!1c", 3));
        y.post(0, 1, 1);
        y.room(3);
        y.run(1, 3);
        for (int i = 0; i <= 3; i++) {
            due("three alike: lies(0, 1, " + i + ")", y.lies(0, 1, i), i < 3 ? 2 : NONE);
        }
    }
}
