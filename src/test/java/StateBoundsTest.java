import java.math.BigInteger;
import java.util.ArrayList;
import java.util.List;

/**
 * Promises 26 to 32, and what the document's parts 2 and 3 say of STATES and MENDS: of each sentence that
 * names a bound, a refusal, or something empty or full, the bound itself, one below it and one above it;
 * the order of refusals; and that nothing has changed behind them.
 */
public final class StateBoundsTest extends Desk {
    /** Numbers that name no OFFICE. */
    private static final int[] NOBODY = {MIN, -2, -1, 3, 4, MAX};
    /** Numbers that are neither 0 nor 1 nor from 10 to 99. */
    private static final int[] NO_ITEM = {MIN, -10, -2, -1, 2, 3, 9, 100, 101, 110, MAX};
    private static final int STUCK = 0, ORPHAN = 1, WRONG = 2, FOREVER = 3, DONE = 4;

    public static void main(String[] args) {
        nowRefused();
        nowOfSpent();
        stuck();
        orphan();
        wrong();
        wrongOfKinds();
        wrongOfTwo();
        forever();
        done();
        metLimit();
        metFromTheBeginning();
        metOfHeaps();
        findRefused();
        findOfNone();
        findOfSpent();
        findHowMany();
        findFirst();
        findFar();
        mostRefused();
        mostOfKinds();
        mendRefused();
        mendSixTimes();
        mendLeast();
        mendOfWrong();
        mendOfForever();
        mendThereAlone();
        mendOfNone();
        mendNotSought();
        mendThatIsSpent();
        mendChangesNothing();
        countRefused();
        countBounds();
        digestOfNothing();
        digestOfAll();
        digestOfEach();
        close("StateBoundsTest");
    }

    /** Only these of 0 to 4 hold now. */
    private static void are(LetterTurns x, int... sights) {
        int[] want = new int[5];
        for (int what : sights) {
            want[what] = 1;
        }
        nows(x, want);
    }

    /** A talk that has more than 2000 states, in which nobody reads: it ends by orphans alone. */
    private static LetterTurns spentOfSends(String tail) {
        return talk("{!1a+!1b}" + tail, "{!0a+!0b};{!0a+!0b};{!2a+!2b+!2c+!2d}", "{!0a+!0b+!0c+!0d};{!0a+!0b};{!1a+!1b}");
    }

    // ---- 26

    private static void nowRefused() {
        of("26 now: refusals");
        LetterTurns x = TalkBoundsTest.busy();
        LetterTurns s = spent();
        LetterTurns empty = new LetterTurns();
        for (int what : new int[] {MIN, -2, -1, 5, 6, MAX}) {
            idle(x, "now(" + what + ")", () -> x.now(what), OUTSIDE);
            idle(s, "now(" + what + "): OUTSIDE ahead of SPENT", () -> s.now(what), OUTSIDE);
            idle(empty, "now(" + what + ")", () -> empty.now(what), OUTSIDE);
        }
        int[] want = {0, 0, 0, 1, 0};
        for (int what = 0; what <= 4; what++) {
            int w = what;
            idle(x, "now(" + what + ")", () -> x.now(w), want[what]);
            idle(empty, "now(" + what + ")", () -> empty.now(w), what == DONE ? 1 : 0);
        }
        due("count(3)", x.count(3), 3);
    }

    private static void nowOfSpent() {
        of("26 now: 3 cannot be told");
        LetterTurns x = spent();
        nows(x, 0, 0, 0, SPENT, 1);
        x.go(0);
        nows(x, 0, 0, 0, SPENT, 0);
        LetterTurns y = spentOfSends("");
        nows(y, 0, 0, 0, SPENT, 0);
        y.run(1, 200);
        nows(y, 0, 1, 0, SPENT, 0);
        LetterTurns z = spentOfSends(";?1d");
        z.run(1, 200);
        nows(z, 1, 0, 1, SPENT, 0);
        due("no more spent", z.seat(2, NONE), 2);
        z.run(1, 200);
        nows(z, 1, 0, 1, 1, 0);
        x.seat(0, NONE);
        x.seat(1, NONE);
        due("no more spent", x.now(3), 0);
    }

    private static void stuck() {
        of("26 stuck");
        are(talk("?1a"), STUCK, FOREVER);
        are(talk("", "?2a"), STUCK, FOREVER);
        are(talk("", "", "?0a"), STUCK, FOREVER);
        are(talk("{?1a}*"), DONE);
        LetterTurns x = talk("?1a", "!0b");
        are(x, FOREVER);
        x.go(0);
        are(x, STUCK, WRONG, FOREVER);
        of("26 stuck: no room");
        LetterTurns y = talk("!1a;!1a;!1a");
        y.go(0);
        are(y, FOREVER);
        y.go(0);
        are(y, STUCK, FOREVER);
        y.room(3);
        y.run(1, 2);
        are(y, FOREVER);
        y.go(0);
        are(y, ORPHAN, FOREVER);
        of("26 stuck: no step of anybody");
        LetterTurns z = talk("?1a", "", "{!1b}*");
        are(z, FOREVER);
        z.go(0);
        are(z, FOREVER);
        z.go(0);
        are(z, STUCK, FOREVER);
    }

    private static void orphan() {
        of("26 orphan");
        for (int from = 0; from < 3; from++) {
            for (int to = 0; to < 3; to++) {
                if (from != to) {
                    LetterTurns x = shelf("!" + to + "a", "{?" + from + "a}*");
                    x.seat(from, 0);
                    are(x, FOREVER);
                    x.go(0);
                    are(x, ORPHAN, FOREVER);
                    x.seat(to, 1);
                    x.go(0);
                    are(x);
                    x.go(0);
                    are(x, DONE);
                }
            }
        }
        of("26 orphan: no step");
        LetterTurns x = talk("{!1a}*");
        are(x, DONE);
        x.go(0);
        are(x, FOREVER);
        x.go(0);
        are(x, ORPHAN, FOREVER);
        of("26 orphan: all at an end");
        LetterTurns y = talk("!1a", "?2b");
        y.go(0);
        are(y, STUCK, FOREVER);
        of("26 orphan: in a heap");
        LetterTurns z = talk("!1d", "{?0a}*");
        z.post(0, 1, 1);
        z.go(0);
        are(z, ORPHAN, FOREVER);
    }

    private static void wrong() {
        of("26 wrong: of each office");
        for (int office = 0; office < 3; office++) {
            for (int from = 0; from < 3; from++) {
                if (office != from) {
                    LetterTurns x = shelf("?" + from + "a", "!" + office + "b", "!" + office + "a");
                    x.seat(office, 0);
                    x.seat(from, 1);
                    are(x, FOREVER);
                    x.go(0);
                    are(x, STUCK, WRONG, FOREVER);
                    x.seat(from, 2);
                    x.go(0);
                    are(x);
                }
            }
        }
        of("26 wrong: not at an end");
        LetterTurns x = talk("!1b", "{?0a}*");
        x.go(0);
        are(x, ORPHAN, FOREVER);
        of("26 wrong: all are waits");
        LetterTurns y = talk("!1b", "{?0a+!2a}");
        y.go(0);
        are(y, FOREVER);
        LetterTurns z = talk("!1b", "!2a;{?0a+!2a}");
        z.room(1);
        z.go(0);
        z.go(0);
        due("no room for the send", z.steps(), 0);
        are(z, STUCK, FOREVER);
        of("26 wrong: there are letters");
        are(talk("{!1b}*", "?0a"), FOREVER);
        of("26 wrong: from an office for which it waits");
        LetterTurns w = talk("", "?2a", "!0b");
        w.go(0);
        are(w, STUCK, FOREVER);
        LetterTurns v = talk("!1b", "?2a");
        v.go(0);
        are(v, STUCK, FOREVER);
    }

    private static void wrongOfKinds() {
        of("26 wrong: the first, in a heap any");
        for (int kind = 0; kind <= 4; kind++) {
            LetterTurns x = talk("!1b;!1a", "?0a;{?0b}*");
            x.post(0, 1, kind);
            x.go(0);
            if (kind == 2) {
                are(x, STUCK, WRONG, FOREVER);
            } else {
                int alone = kind == 1 ? 0 : 1;
                due("kind " + kind + ": b alone, now(2)", x.now(WRONG), 1);
                x.go(0);
                due("kind " + kind + ": b ahead of a, now(2)", x.now(WRONG), alone);
                due("kind " + kind + ": b ahead of a, now(0)", x.now(STUCK), alone);
            }
            LetterTurns y = talk("!1a;!1b", "?0a;{?0b}*");
            y.post(0, 1, kind);
            y.go(0);
            due("kind " + kind + ": a, now(2)", y.now(WRONG), 0);
            if (kind != 2) {
                y.go(0);
                due("kind " + kind + ": a ahead of b, now(2)", y.now(WRONG), 0);
            }
        }
    }

    private static void wrongOfTwo() {
        of("26 wrong: waits for two");
        String[] from0 = {"", "!1a", "!1b", "!1c"};
        String[] from2 = {"", "!1a", "!1b", "!1c"};
        for (int i = 0; i < 4; i++) {
            for (int k = 0; k < 4; k++) {
                LetterTurns x = talk(from0[i], "{?0a+?0b+?2b}", from2[k]);
                while (x.step(0) >= 0 && x.step(0) % 1000 / 100 != 1) {
                    x.go(0);
                }
                while (x.step(x.steps() - 1) >= 200) {
                    x.go(x.steps() - 1);
                }
                boolean wrong = i == 3 || k == 1 || k == 3;
                due("0 wrote " + from0[i] + ", 2 wrote " + from2[k] + ": now(2)", x.now(WRONG), wrong ? 1 : 0);
            }
        }
    }

    private static void forever() {
        of("26 forever");
        LetterTurns x = talk("{!1a+!1b}", "?0a");
        are(x);
        x.go(0);
        are(x);
        x.go(0);
        are(x, DONE);
        x.begin();
        x.go(1);
        are(x, STUCK, WRONG, FOREVER);
        of("26 forever: on and on");
        LetterTurns y = talk("{!1a;?1b}*;!1c", "{?0a;!0b}*;!2c");
        are(y, FOREVER);
        due("all of them", y.find(FOREVER, 0), y.met());
        y.run(3, 200);
        due("now(3)", y.now(FOREVER), 1);
        of("26 forever: done, and on again");
        LetterTurns z = talk("{!1a}*", "{?0a}*");
        are(z, DONE);
        z.go(0);
        are(z);
        z.go(1);
        are(z, DONE);
        due("a step more", z.steps(), 1);
        due("none of them", z.find(FOREVER, 0), 0);
    }

    private static void done() {
        of("26 done");
        are(new LetterTurns(), DONE);
        are(talk("{!1a}*"), DONE);
        are(talk("{!1a}*", "", "{!1a}*"), DONE);
        are(talk("{!1a}*", "{?0a}*", "?1a"), FOREVER);
        are(talk("{!1a}*", "!2a"), FOREVER);
        LetterTurns x = talk("!1a;?1a", "?0a;!0a");
        for (int steps = 0; steps < 4; steps++) {
            due(steps + " steps done", x.now(DONE), 0);
            x.go(0);
        }
        are(x, DONE);
    }

    // ---- 27

    /** A talk that is sound: of the first two letters one another's loops are the rest. */
    private static LetterTurns sound(int states, String first) {
        String[] loops = states == 1999 ? new String[] {"{!2b+?2d+?2b;?2c+?2d}*", "{?2c}*", "{?0b+!0d+!0b;!0c+!0d+!1c}*"}
                : states == 2000 ? new String[] {"{!1d+!2c+?1a+?2c;?2c}*", "{?0d+!0a+?2a+?2c}*", "{?0c+!0c;!0c+!1a+!1c}*"}
                : new String[] {"{!1d+!2a+!2d}*", "{?0d+!2c+!2c}*", "{?0a+?0d+?1c+?1c}*"};
        LetterTurns x = talk(first + ";" + loops[0], "?0d;" + loops[1], loops[2]);
        x.room(states == 2000 ? 1 : 2);
        return x;
    }

    private static void metLimit() {
        of("27 met: more than 2000");
        for (int states : new int[] {1999, 2000, 2001}) {
            LetterTurns x = sound(states, "!1d");
            int want = states > 2000 ? SPENT : states;
            idle(x, "met() of " + states, x::met, want);
            due("find(3, 0) of " + states, x.find(FOREVER, 0), states > 2000 ? SPENT : 0);
            due("now(3) of " + states, x.now(FOREVER), states > 2000 ? SPENT : 0);
            due("most(0, 2) of " + states, x.most(0, 2), states > 2000 ? SPENT : states == 2000 ? 1 : 2);
            due("mend(0) of " + states, x.mend(0), states > 2000 ? SPENT : -3);
        }
        LetterTurns x = sound(2001, "!1d");
        due("SPENT", x.met(), SPENT);
        due("room(1)", x.room(1), 2);
        due("no more", x.met() > 0 ? 1 : 0, 1);
        due("room(2)", x.room(2), 1);
        due("SPENT again", x.met(), SPENT);
    }

    private static void metFromTheBeginning() {
        of("27 met: from the beginning");
        LetterTurns x = talk("!1a;!1b", "?0a;?0b");
        for (int steps = 0; steps <= 4; steps++) {
            idle(x, steps + " steps done: met()", x::met, 6);
            idle(x, steps + " steps done: find(4, 1)", () -> x.find(DONE, 1), 4);
            x.go(0);
        }
        due("without offices", new LetterTurns().met(), 1);
        of("27 met: behind each change");
        due("room(1)", x.room(1), 2);
        due("met()", x.met(), 5);
        due("post(0, 1, 3)", x.post(0, 1, 3), 0);
        // places 0 0; 1 0, 2 0, 1 1 or 2 1 (what was sent last lies, was lost, or was read); 2 2
        due("met()", x.met(), 1 + 2 + 2 + 1 + 2 + 1);
        due("seat(1, NONE)", x.seat(1, NONE), 1);
        due("met()", x.met(), 5);
    }

    private static void metOfHeaps() {
        of("27 met: in a heap how many of each");
        int ordered = 1 + 2 + 4 + 4;
        int heaped = 1 + 2 + 4 + 3;
        // behind two acts of a lost one: by their places nothing, one or two letters; then all of these, with c and without
        int lost = 1 + 4 + 2 * 5 + 2 * 7;
        int[] want = {ordered, heaped, 1 + 2, lost, ordered};
        for (int kind = 0; kind <= 4; kind++) {
            LetterTurns x = talk("{!1a+!1b};{!1a+!1b};!1c");
            x.room(3);
            x.post(0, 1, kind);
            due("kind " + kind + ": met()", x.met(), want[kind]);
        }
    }

    // ---- 28

    private static void findRefused() {
        of("28 find: refusals");
        LetterTurns x = TalkBoundsTest.busy();
        LetterTurns s = spent();
        for (int what : new int[] {MIN, -2, -1, 5, 6, MAX}) {
            for (int item : new int[] {-1, 0, 1, 2, 10, 99, 100}) {
                idle(x, "find(" + what + ", " + item + ")", () -> x.find(what, item), OUTSIDE);
            }
            idle(s, "find(" + what + ", 0): OUTSIDE ahead of SPENT", () -> s.find(what, 0), OUTSIDE);
        }
        for (int item : NO_ITEM) {
            for (int what = 0; what <= 4; what++) {
                int w = what;
                idle(x, "find(" + what + ", " + item + ")", () -> x.find(w, item), OUTSIDE);
            }
            idle(s, "find(4, " + item + "): OUTSIDE ahead of SPENT", () -> s.find(DONE, item), OUTSIDE);
        }
    }

    private static void findOfNone() {
        of("28 find: there is none");
        LetterTurns sound = talk("!1a", "?0a");
        LetterTurns never = talk("{!1a;?1b}*;!1c", "{?0a;!0b}*;!2c");
        for (int item : new int[] {1, 10, 11, 98, 99}) {
            for (int what = 0; what <= 3; what++) {
                int w = what;
                idle(sound, "find(" + what + ", " + item + ")", () -> sound.find(w, item), NONE);
            }
            idle(never, "find(4, " + item + ")", () -> never.find(DONE, item), NONE);
        }
        for (int what = 0; what <= 3; what++) {
            int w = what;
            idle(sound, "find(" + what + ", 0)", () -> sound.find(w, 0), 0);
        }
        idle(never, "find(4, 0)", () -> never.find(DONE, 0), 0);
        LetterTurns at = talk("?1a");
        due("at the beginning", at.find(STUCK, 1), 0);
        due("no way to it", at.find(STUCK, 10), NONE);
    }

    private static void findOfSpent() {
        of("28 find: SPENT");
        LetterTurns x = spent();
        LetterTurns y = spentOfSends("");
        for (int what = 0; what <= 4; what++) {
            for (int item : new int[] {0, 1, 10, 11, 99}) {
                int w = what;
                idle(x, "find(" + what + ", " + item + ")", () -> x.find(w, item), SPENT);
                idle(y, "find(" + what + ", " + item + ")", () -> y.find(w, item), SPENT);
            }
        }
    }

    private static void findAll(LetterTurns x, int... want) {
        for (int what = 0; what <= 4; what++) {
            int w = what;
            idle(x, "find(" + what + ", 0)", () -> x.find(w, 0), want[what]);
        }
    }

    private static void findHowMany() {
        of("28 find: how many");
        findAll(new LetterTurns(), 0, 0, 0, 0, 1);
        // places 0 0; 1 0 a or b; b and a; 1 1
        findAll(talk("{!1a+!1b}", "?0a"), 1, 0, 1, 1, 1);
        LetterTurns x = talk("!1b;!1a", "?0a");
        findAll(x, 1, 0, 2, 3, 0);
        x.post(0, 1, 1);
        // 0 0; 1 0 b; 2 0 ab; 2 1 b
        findAll(x, 0, 1, 1, 4, 0);
        // a state can be stuck and wrong, another one an orphan, and all be forever
        findAll(talk("{!1b+!2b}", "?0a"), 2, 0, 1, 3, 0);
        findAll(talk("{!1b+!2b}"), 0, 2, 0, 3, 0);
        // two done: before, and behind, a letter
        findAll(talk("{!1a}*", "{?0a}*"), 0, 0, 0, 0, 2);
    }

    private static void way(LetterTurns x, int what, int... steps) {
        due("find(" + what + ", 1)", x.find(what, 1), steps.length);
        for (int i = 0; i < steps.length; i++) {
            due("find(" + what + ", " + (10 + i) + ")", x.find(what, 10 + i), steps[i]);
        }
        due("find(" + what + ", " + (10 + steps.length) + ")", x.find(what, 10 + steps.length), NONE);
        due("find(" + what + ", 99)", x.find(what, 99), NONE);
    }

    private static void findFirst() {
        of("28 find: the first of them");
        way(talk("!1a", "!0a"), ORPHAN, 1, 101);
        way(talk("!1a", "!0a", "!1a"), ORPHAN, 1, 101, 201);
        way(talk("{!1a+!1b}"), ORPHAN, 1);
        way(talk("", "{!0a+!2a}", "!0a"), ORPHAN, 101, 201);
        way(talk("{!1a;!1b+!1c}"), ORPHAN, 3);
        way(talk("{!2a;!1a+!1b}", "?0a"), STUCK, 3);
        way(talk("{!2a;!1a+!1b}", "?0a"), WRONG, 3);
        way(talk("{!2a;!1a+!1a}", "?0a"), DONE, 3, 101);
        way(talk("{!2a;!1a+!1a}", "?0a"), FOREVER, 1);
        of("28 find: of like ones as their steps stand in order");
        // 1 and 1001 ahead of 3: behind 1001 as behind 3 nobody can do anything
        LetterTurns x = talk("{!1a;?1a+!1b;?1a}", "?0a;!0a");
        x.post(0, 1, 3);
        way(x, STUCK, 1001);
        LetterTurns y = talk("!1a;!1a", "?0a;?0a");
        y.post(0, 1, 4);
        way(y, ORPHAN, 1, 2, 101, 1102);
        way(y, DONE, 1, 2, 101, 102);
        LetterTurns z = talk("!1a", "?0a;?0a");
        z.post(0, 1, 4);
        way(z, DONE, 1, 1101, 102);
        way(z, STUCK, 1, 101);
    }

    /** Office 0 may end behind some letters and then each 7 more, office 1 behind some and each 11 more. */
    private static LetterTurns longWay(int first, int second) {
        String ahead = first == 0 ? "" : row("!1a", first) + ";";
        String before = second == 0 ? "" : row("?0a", second) + ";";
        LetterTurns x = talk(ahead + "{" + row("!1a", 7) + "}*", before + "{" + row("?0a", 11) + "}*");
        x.post(0, 1, 2);
        return x;
    }

    private static void findFar() {
        of("28 find: 10 to 99");
        LetterTurns x = longWay(2, 0);
        due("44 letters", x.find(DONE, 1), 88);
        due("find(4, 97)", x.find(DONE, 97), 111);
        due("find(4, 98)", x.find(DONE, 98), NONE);
        due("find(4, 99)", x.find(DONE, 99), NONE);
        due("find(4, 100)", x.find(DONE, 100), OUTSIDE);
        LetterTurns y = longWay(3, 1);
        due("45 letters", y.find(DONE, 1), 90);
        due("find(4, 98)", y.find(DONE, 98), 10);
        due("find(4, 99)", y.find(DONE, 99), 112);
        due("find(4, 100)", y.find(DONE, 100), OUTSIDE);
        LetterTurns z = longWay(4, 1);
        due("67 letters", z.find(DONE, 1), 134);
        due("find(4, 10)", z.find(DONE, 10), 1);
        due("find(4, 11)", z.find(DONE, 11), 101);
        due("find(4, 98), the 45th letter is sent", z.find(DONE, 98), 10);
        due("find(4, 99), and read", z.find(DONE, 99), 112);
        due("find(4, 100)", z.find(DONE, 100), OUTSIDE);
    }

    // ---- 29

    private static void mostRefused() {
        of("29 most: refusals");
        LetterTurns x = TalkBoundsTest.busy();
        LetterTurns s = spent();
        for (int office : NOBODY) {
            idle(x, "most(" + office + ", 1)", () -> x.most(office, 1), UNKNOWN);
            idle(x, "most(1, " + office + ")", () -> x.most(1, office), UNKNOWN);
            idle(x, "most(" + office + ", itself)", () -> x.most(office, office), UNKNOWN);
            idle(s, "most(" + office + ", 1): UNKNOWN ahead of SPENT", () -> s.most(office, 1), UNKNOWN);
        }
        for (int office = 0; office < 3; office++) {
            int o = office;
            idle(x, "most(" + o + ", " + o + ")", () -> x.most(o, o), UNKNOWN);
            idle(s, "most(" + o + ", " + o + "): UNKNOWN ahead of SPENT", () -> s.most(o, o), UNKNOWN);
            idle(s, "most(" + o + ", another)", () -> s.most(o, (o + 1) % 3), SPENT);
            idle(s, "most(another, " + o + ")", () -> s.most((o + 1) % 3, o), SPENT);
        }
    }

    private static void mostOfKinds() {
        of("29 most");
        String[] acts = {"!1a", "!1a;!1b", "!1a;!1b;!1c", "!1a;!1b;!1c;!1d"};
        for (int kind = 0; kind <= 4; kind++) {
            for (int room = 1; room <= 3; room++) {
                for (int sent = 1; sent <= 4; sent++) {
                    LetterTurns x = talk(acts[sent - 1]);
                    x.post(0, 1, kind);
                    x.room(room);
                    int want = Math.min(sent, kind == 2 ? 1 : room);
                    idle(x, "kind " + kind + ", room " + room + ", " + sent + " sent: most(0, 1)", () -> x.most(0, 1), want);
                    due("another post", x.most(1, 0), 0);
                }
            }
        }
        of("29 most: in some state, not now");
        LetterTurns x = talk("!1a;!1a;?1b", "?0a;?0a;!0b");
        for (int steps = 0; steps <= 6; steps++) {
            due(steps + " steps done: most(0, 1)", x.most(0, 1), 2);
            due(steps + " steps done: most(1, 0)", x.most(1, 0), 1);
            due(steps + " steps done: most(0, 2)", x.most(0, 2), 0);
            x.go(0);
        }
        LetterTurns y = talk("{!1a;?1b}*", "{?0a;!0b;!2c}*", "{?1c}*");
        due("one after the other", y.most(0, 1), 1);
        due("one after the other", y.most(1, 0), 1);
        due("as many as there is room for", y.most(1, 2), 2);
        due("without offices", new LetterTurns().most(2, 1), 0);
    }

    // ---- 30

    private static void mendRefused() {
        of("30 mend: refusals");
        LetterTurns x = TalkBoundsTest.busy();
        LetterTurns s = spent();
        for (int what : new int[] {MIN, -3, -1, 3, 4, MAX}) {
            idle(x, "mend(" + what + ")", () -> x.mend(what), OUTSIDE);
            idle(s, "mend(" + what + "): OUTSIDE ahead of SPENT", () -> s.mend(what), OUTSIDE);
        }
        due("none was done", x.count(5), 0);
    }

    private static void mendSixTimes() {
        of("30 mend: 6 times ever");
        LetterTurns x = talk("!1a", "?0b");
        mends(x, 0, 1, 1);
        due("count(5)", x.count(5), 3);
        x.seat(1, NONE);
        due("none", x.mend(0), NONE);
        due("count(5)", x.count(5), 4);
        x.seat(0, NONE);
        due("nothing to be mended", x.mend(1), -3);
        due("count(5)", x.count(5), 5);
        due("OUTSIDE", x.mend(3), OUTSIDE);
        due("count(5)", x.count(5), 5);
        due("the sixth", x.mend(2), -3);
        due("count(5)", x.count(5), 6);
        for (int what = 0; what <= 2; what++) {
            int w = what;
            idle(x, "a seventh: mend(" + what + ")", () -> x.mend(w), STATE);
        }
        idle(x, "OUTSIDE ahead of STATE", () -> x.mend(-1), OUTSIDE);
        idle(x, "OUTSIDE ahead of STATE", () -> x.mend(3), OUTSIDE);
        x.begin();
        x.room(3);
        x.seat(0, 0);
        idle(x, "ever", () -> x.mend(0), STATE);
        due("count(5)", x.count(5), 6);
        LetterTurns s = spent();
        for (int times = 1; times <= 6; times++) {
            due("SPENT counts, too", s.mend(0), SPENT);
            due("count(5)", s.count(5), times);
        }
        idle(s, "STATE ahead of SPENT", () -> s.mend(0), STATE);
        LetterTurns y = talk("!1a", "?0b");
        for (int times = 1; times <= 5; times++) {
            due("of a talk that is bad", y.mend(2), 1);
        }
        due("the sixth", y.mend(1), 1);
        due("the seventh", y.mend(1), STATE);
    }

    private static void mendLeast() {
        of("30 mend: the least office");
        mends(talk("!1a", "?0b"), 0, 1, 1);
        mends(talk("?1a", "!0b"), 0, 1, 1);
        mends(talk("", "!2a", "?1b"), 1, 1, 1);
        mends(talk("", "{!2a}*", "{?1a;?1b}*"), 2, 2, 0);
        of("30 mend: the least act");
        mends(talk("!1a;!1b", "{?0a;?0a+?0b;?0b}"), 0, 1, 1);
        mends(talk("!1b;!1a", "{?0b;?0b;?0d+?0c;?0a+?0b;?0d}"), 0, 1, 2);
        mends(talk("!1b;!1a", "{?0b;?0d+?0a;?0c}"), 0, 2, 3);
        mends(talk(row("!1a", 15), row("?0a", 14) + ";?0d"), 0, 15, 3);
        of("30 mend: the least letter");
        mends(talk("!1a", "{?0d+?0c}"), 0, 1, 2);
        mends(talk("!1a", "{?0d+?0c+?0b}"), 0, 1, 1);
        mends(talk("!1d", "{?0c+?0a+?0b}"), 0, 1, 0);
        mends(talk("!1a", "?0d"), 0, 1, 3);
        of("30 mend: wrong for a while");
        for (int kind = 0; kind <= 4; kind++) {
            LetterTurns x = talk("!1a;!1c", "?0c;?0b");
            x.post(0, 1, kind);
            mends(x, NONE, NONE, NONE);
        }
    }

    /** The end is reached from each state, but some are wrong on the way. */
    private static void mendOfWrong() {
        of("30 mend: wrong alone");
        LetterTurns x = talk("!1b;!1a", "?0a;{?0a+?0b}");
        x.post(0, 1, 1);
        findAll(x, 0, 0, 1, 0, 1);
        mends(x, 0, 1, 0);
        LetterTurns y = talk("!1c", "{?2b;?0c+?0a;?2b}", "!1b");
        // c, with or without b
        findAll(y, 0, 0, 2, 0, 1);
        mends(y, 1, 3, 2);
    }

    /** No state is stuck, orphan or wrong, but from all of them, or from some, no end can be reached. */
    private static void mendOfForever() {
        of("30 mend: forever alone");
        LetterTurns x = talk("{!1a}*;?1b", "?0a;!0c;{?0a}*");
        findAll(x, 0, 0, 0, x.met(), 0);
        mends(x, 0, 2, 2);
        LetterTurns y = talk("{!1a;{!1b}*;!1c}", "{?0a;{?0b}*;?0d}");
        due("the third act of both is unlike", y.find(STUCK, 0) > 0 ? 1 : 0, 1);
        mends(y, 0, 3, 3);
        LetterTurns z = talk("{!1d+{!1a}*;?1b}", "{?0d+?0a;!0c;{?0a}*}");
        int some = z.find(FOREVER, 0);
        due("some, but not all", some > 0 && some < z.met() ? 1 : 0, 1);
        findAll(z, 0, 0, 0, some, 1);
        mends(z, 0, 3, 2);
        of("30 mend: forever by an act that is done once, at the beginning");
        LetterTurns w = talk("!1b;{!1a}*;?1c", "{?0b;{?0a}*+?0d;!0c;{?0a}*}");
        findAll(w, 0, 0, 0, w.met(), 0);
        mends(w, 0, 1, 3);
        of("30 mend: as many wrong as forever");
        LetterTurns v = talk("?1a", "{!0a+!0b};{!2c}*", "{?1c}*");
        int wrong = v.find(WRONG, 0);
        due("some, but not all", wrong > 0 && wrong < v.met() ? 1 : 0, 1);
        findAll(v, 0, 0, wrong, wrong, v.find(DONE, 0));
        mends(v, 1, 2, 0);
    }

    private static void mendThereAlone() {
        of("30 mend: others that have that book keep it");
        LetterTurns x = shelf("!1a", "{?0b;?2a+?2a;?0b}");
        x.seat(0, 0);
        x.seat(2, 0);
        x.seat(1, 1);
        mends(x, 0, 1, 1);
        LetterTurns y = shelf("!1a", "{?0a;?2b+?2b;?0a}");
        y.seat(0, 0);
        y.seat(2, 0);
        y.seat(1, 1);
        mends(y, 2, 1, 1);
        due("act(0, 1) stays", y.act(0, 1), 10);
        LetterTurns z = shelf("!1a", "?0b;?2b");
        z.seat(0, 0);
        z.seat(2, 0);
        z.seat(1, 1);
        mends(z, NONE, NONE, NONE);
    }

    private static void mendOfNone() {
        of("30 mend: there is none");
        mends(talk("!1a"), NONE, NONE, NONE);
        mends(talk("?1a"), NONE, NONE, NONE);
        mends(talk("!1a;!1b", "?0c;?0d"), NONE, NONE, NONE);
        mends(talk("!1a;!1a;!1a", "{?0a}"), NONE, NONE, NONE);
        of("30 mend: no state is stuck, orphan, wrong or forever");
        // if office 0 ended by a, office 1 could end ahead of it
        mends(talk("{!1a}*;!1b", "{?0a}*;?0a"), 1, 2, 1);
        mends(talk("!1a;{!1b}*", "?0c;{?0d}*"), NONE, NONE, NONE);
        LetterTurns x = talk("!1a", "?0a");
        x.post(0, 1, 3);
        mends(x, NONE, NONE, NONE);
        LetterTurns y = talk("!1a", "?0a;{?0a}*");
        y.post(0, 1, 4);
        mends(y, -3, -3, -3);
        y.post(0, 1, 3);
        due("what is lost is missed", y.find(STUCK, 0), 1);
    }

    private static void mendNotSought() {
        of("30 mend: not sought");
        mends(new LetterTurns(), -3, -3, -3);
        mends(talk("!1a", "?0a"), -3, -3, -3);
        mends(talk("{!1a}*", "{?0a}*"), -3, -3, -3);
        mends(spent(), SPENT, SPENT, SPENT);
        mends(spentOfSends(""), SPENT, SPENT, SPENT);
        of("30 mend: behind each change");
        LetterTurns x = talk("!1a;!1a;?1b;?1b", "!0b;!0b;?0a;?0a");
        due("room 2", x.mend(0), -3);
        x.room(1);
        due("room 1", x.mend(0), NONE);
        x.room(2);
        due("room 2 again", x.mend(0), -3);
        x.post(0, 1, 2);
        due("a short one", x.mend(0), -3);
        x.post(1, 0, 2);
        due("two short ones", x.mend(0), NONE);
        x.seat(1, book(x, "?0a;?0b;!0b;!0b"));
        due("another book", x.mend(1), 2);
        LetterTurns y = talk("!1a", "?0b");
        due("a post", y.mend(2), 1);
        y.post(0, 1, 3);
        due("a lost one", y.mend(2), NONE);
        y.post(0, 1, 4);
        due("a twice", y.mend(2), NONE);
        y.post(0, 1, 1);
        due("a heap", y.mend(2), 1);
        y.seat(1, NONE);
        due("nobody reads", y.mend(2), NONE);
    }

    private static void mendThatIsSpent() {
        of("30 mend: one by which it is spent is none");
        for (int states : new int[] {1999, 2000, 2001}) {
            LetterTurns x = sound(states, "!1c");
            due("before: find(2, 0) is not 0", x.find(WRONG, 0) > 0 ? 1 : 0, 1);
            if (states > 2000) {
                mends(x, NONE, NONE, NONE);
            } else {
                mends(x, 0, 1, 3);
            }
        }
        LetterTurns x = sound(2001, "!1c");
        due("room 2", x.mend(0), NONE);
        x.room(1);
        mends(x, 0, 1, 3);
        x.room(2);
        due("room 2 again", x.mend(0), NONE);
    }

    private static void mendChangesNothing() {
        of("30 mend: nothing but its count changes");
        LetterTurns x = talk("{!1a+!1c}*", "{?0a+!2b}*;?0b", "{?1b}*");
        write(x, "{!");
        int did = x.run(77, 9);
        int[] before = state(x);
        int states = x.met();
        due("mend(0)", x.mend(0), NONE);
        due("met()", x.met(), states);
        LetterTurns y = talk("!1a;{!1c}*", "?0b;{?0c}*");
        y.go(0);
        y.go(0);
        int[] earlier = state(y);
        int orphans = y.find(ORPHAN, 0);
        int stuck = y.find(STUCK, 0);
        mends(y, 0, 1, 1);
        due("find(1, 0)", y.find(ORPHAN, 0), orphans);
        due("find(0, 0)", y.find(STUCK, 0), stuck);
        due("act(0, 1)", y.act(0, 1), 10);
        due("now(0)", y.now(STUCK), 1);
        int[] after = state(x);
        int[] later = state(y);
        for (int i = 0; i < before.length; i++) {
            due("number " + i, after[i], before[i]);
            due("number " + i, later[i], earlier[i]);
        }
        due("begin()", x.begin(), did);
        due("begin()", y.begin(), 2);
    }

    /** What can be told of a talk as it is now. */
    private static int[] state(LetterTurns x) {
        int[] told = new int[40];
        int n = 0;
        for (int what = 0; what <= 4; what++) {
            told[n++] = x.count(what);
        }
        for (int office = 0; office < 3; office++) {
            told[n++] = x.at(office);
            for (int to = 0; to < 3; to++) {
                if (to != office) {
                    told[n++] = kindOf(x, office, to);
                    told[n++] = x.lies(office, to, 0);
                    told[n++] = x.lies(office, to, 1);
                    told[n++] = x.lies(office, to, 2);
                }
            }
        }
        told[n++] = x.steps();
        told[n++] = x.step(0);
        told[n++] = x.step(1);
        return told;
    }

    // ---- 31

    private static void countRefused() {
        of("31 count: refusals");
        LetterTurns x = TalkBoundsTest.busy();
        LetterTurns empty = new LetterTurns();
        for (int what : new int[] {MIN, -2, -1, 6, 7, MAX}) {
            idle(x, "count(" + what + ")", () -> x.count(what), OUTSIDE);
            idle(empty, "count(" + what + ")", () -> empty.count(what), OUTSIDE);
        }
        int[] want = {5, 1, 3, 3, 1, 0};
        for (int what = 0; what <= 5; what++) {
            int w = what;
            idle(x, "count(" + what + ")", () -> x.count(w), want[what]);
            idle(empty, "count(" + what + ")", () -> empty.count(w), 0);
        }
    }

    private static void countBounds() {
        of("31 count: from nothing to full");
        LetterTurns x = new LetterTurns();
        for (int number = 1; number <= 9; number++) {
            book(x, "!1a");
            due("books", x.count(0), Math.min(number, 8));
        }
        for (int number = 1; number <= 4; number++) {
            one(x, "01a");
            due("ones", x.count(1), Math.min(number, 3));
        }
        for (int signs = 1; signs <= 61; signs++) {
            x.letters('a');
            due("signs", x.count(2), Math.min(signs, 60));
        }
        of("31 count: steps and letters");
        LetterTurns y = talk("{!1a+!2a}*", "{!0a+!2a}*", "{!0a+!1a}*");
        y.room(3);
        y.post(0, 1, 1);
        for (int steps = 0; steps <= 18; steps++) {
            due("steps", y.count(3), steps);
            due("letters, all posts", y.count(4), steps);
            y.go(0);
        }
        due("no more", y.count(3), 18);
        due("no more", y.count(4), 18);
        due("begin()", y.begin(), 18);
        due("steps", y.count(3), 0);
        due("letters", y.count(4), 0);
        LetterTurns z = talk("{!1a}*", "{?0a}*");
        z.post(0, 1, 4);
        z.go(0);
        due("read, and stays", z.go(2), 1101);
        due("steps", z.count(3), 2);
        due("letters", z.count(4), 1);
        z.run(8, 200);
        due("steps", z.count(3), 202);
    }

    // ---- 32

    private static int kindOf(LetterTurns x, int from, int to) {
        for (int kind = 4; kind > 0; kind--) {
            if (x.as(from, to, kind) != NONE) {
                return kind;
            }
        }
        return 0;
    }

    /** The numbers in the document's order, by the other calls; what these do not tell is given. */
    private static List<Long> numbers(LetterTurns x, int[] seats, int room, String page) {
        List<Long> all = new ArrayList<>();
        for (int b = 0; b < x.count(0); b++) {
            for (int what = 0; what <= 3; what++) {
                all.add((long) x.about(b, what));
            }
            for (int act = 1; act <= x.about(b, 0); act++) {
                all.add((long) x.act(b, act));
            }
            for (int place = 0; place <= x.about(b, 0); place++) {
                all.add((long) x.follow(b, place));
            }
        }
        for (int office = 0; office < 3; office++) {
            all.add((long) seats[office]);
            all.add((long) x.at(office));
        }
        for (int from = 0; from < 3; from++) {
            for (int to = 0; to < 3; to++) {
                if (from != to) {
                    all.add((long) kindOf(x, from, to));
                    for (int i = 0; x.lies(from, to, i) != NONE; i++) {
                        all.add((long) x.lies(from, to, i));
                    }
                }
            }
        }
        all.add((long) room);
        all.add((long) x.steps());
        all.add((long) x.met());
        for (char sign : page.toCharArray()) {
            all.add((long) sign);
        }
        for (int what = 0; what <= 5; what++) {
            all.add((long) x.count(what));
        }
        return all;
    }

    /** By whole numbers of any size: only at the end their lower 64 binary figures are taken, as a long has them. */
    private static void sums(LetterTurns x, int[] seats, int room, String page) {
        BigInteger h = BigInteger.valueOf(307);
        for (long number : numbers(x, seats, room, page)) {
            h = h.multiply(BigInteger.valueOf(31)).add(BigInteger.valueOf(number));
        }
        due("digest()", x.digest(), h.longValue());
        due("digest() again", x.digest(), h.longValue());
    }

    private static void digestOfNothing() {
        of("32 digest of a new object");
        sums(new LetterTurns(), new int[] {NONE, NONE, NONE}, 2, "");
        long h = 307;
        long[] all = {-1, -1, -1, -1, -1, -1, 0, 0, 0, 0, 0, 0, 2, 0, 1, 0, 0, 0, 0, 0, 0};
        for (long number : all) {
            h = 31 * h + number;
        }
        due("digest()", new LetterTurns().digest(), h);
    }

    private static void digestOfAll() {
        of("32 digest of a talk");
        LetterTurns x = TalkBoundsTest.busy();
        sums(x, new int[] {0, 1, NONE}, 3, "{!0");
        x.mend(1);
        sums(x, new int[] {0, 1, NONE}, 3, "{!0");
        of("32 digest where all is full");
        LetterTurns y = new LetterTurns();
        String deep = "{{" + row("!1a", 14) + "}}*";
        String[] books = {row("!1d", 15), row("!0c", 15), row("!1b", 15), deep, "{!1a+!2a}*", "{!0d+!2d}*", "{!0c+!1b}*", "?2d"};
        for (String text : books) {
            book(y, text);
        }
        for (int number = 0; number < 3; number++) {
            one(y, "12b");
            y.seat(number, 4 + number);
        }
        write(y, "~".repeat(60));
        y.room(3);
        y.run(5, 200);
        due("18 letters", y.count(4), 18);
        for (int times = 0; times < 6; times++) {
            y.mend(0);
        }
        sums(y, new int[] {4, 5, 6}, 3, "~".repeat(60));
        of("32 digest of a talk that is spent");
        LetterTurns z = spent();
        z.run(2, 50);
        sums(z, new int[] {0, 1, 2}, 3, "");
        of("32 digest of heaps");
        LetterTurns w = talk("!1d;!1b;!1c");
        w.post(0, 1, 1);
        w.room(3);
        w.run(1, 3);
        sums(w, new int[] {0, NONE, NONE}, 3, "");
        of("32 digest of a book of nothing");
        LetterTurns v = new LetterTurns();
        one(v, "01a");
        v.own(0, 2);
        v.seat(1, 0);
        sums(v, new int[] {NONE, 0, NONE}, 2, "");
    }

    /** Each call that changes something changes the digest, too: nothing of what it tells is left out. */
    private static void digestOfEach() {
        of("32 digest behind each change");
        LetterTurns x = new LetterTurns();
        List<Long> seen = new ArrayList<>();
        seen.add(x.digest());
        x.letters('!');
        seen.add(x.digest());
        x.letters(word("1a"));
        seen.add(x.digest());
        x.book();
        seen.add(x.digest());
        x.twin(0);
        seen.add(x.digest());
        one(x, "01a");
        seen.add(x.digest());
        x.own(0, 1);
        seen.add(x.digest());
        x.seat(0, 0);
        seen.add(x.digest());
        x.room(3);
        seen.add(x.digest());
        for (int from = 0; from < 3; from++) {
            for (int to = 0; to < 3; to++) {
                if (from != to) {
                    x.post(from, to, 1 + from + to);
                    seen.add(x.digest());
                }
            }
        }
        x.go(0);
        seen.add(x.digest());
        x.mend(0);
        seen.add(x.digest());
        x.begin();
        seen.add(x.digest());
        for (int i = 0; i < seen.size(); i++) {
            due("digest " + i + " comes first there", seen.indexOf(seen.get(i)), i);
        }
    }
}
