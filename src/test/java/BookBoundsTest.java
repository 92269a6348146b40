/**
 * Promises 1 to 14: of each sentence that names a bound, a refusal, or something empty or full, the bound
 * itself, one below it and one above it; the order of refusals; and that nothing has changed behind them.
 */
public final class BookBoundsTest extends Desk {
    private static final String FULL_PAGE = "{{" + row("!0a", 14) + "}}*";

    public static void main(String[] args) {
        newObject();
        objectsAreApart();
        bytesOfLetters();
        zeroesInLetters();
        fullPage();
        orderOfSigns();
        blank();
        faultSorts();
        faultOfEachSign();
        faultOfOneSigns();
        faultOfAnyLength();
        faultLooksAtSignsAlone();
        bookRefused();
        bookSizes();
        eightBooks();
        idleLoops();
        oneRefused();
        threeOnes();
        ownRefused();
        ownOfNothing();
        ownNumbers();
        oneIsKept();
        twinRefused();
        twinOfEdges();
        about();
        fewest();
        act();
        follow();
        same();
        apartRefused();
        apartRows();
        apartOrder();
        watchRefused();
        watchCounts();
        close("BookBoundsTest");
    }

    // ---- 1

    private static void newObject() {
        of("1 a new object");
        LetterTurns x = new LetterTurns();
        for (int what = 0; what <= 5; what++) {
            due("count(" + what + ")", x.count(what), 0);
        }
        due("no book", x.about(0, 0), UNKNOWN);
        due("no one", x.own(0, 0), UNKNOWN);
        due("an empty page", x.blank(), 0);
        due("no steps", x.steps(), 0);
        due("none done", x.begin(), 0);
        due("run(0, 200)", x.run(0, 200), 0);
        due("met()", x.met(), 1);
        nows(x, 0, 0, 0, 0, 1);
        for (int what = 0; what <= 4; what++) {
            due("find(" + what + ", 0)", x.find(what, 0), what == 4 ? 1 : 0);
            due("find(" + what + ", 1)", x.find(what, 1), what == 4 ? 0 : NONE);
            due("find(" + what + ", 10)", x.find(what, 10), NONE);
        }
        for (int from = 0; from < 3; from++) {
            due("at(" + from + ")", x.at(from), NONE);
            for (int to = 0; to < 3; to++) {
                if (from != to) {
                    due("lies(" + from + ", " + to + ", 0)", x.lies(from, to, 0), NONE);
                    due("most(" + from + ", " + to + ")", x.most(from, to), 0);
                    due("as(" + from + ", " + to + ", 0)", x.as(from, to, 0), 10 * from + to);
                    due("as(" + from + ", " + to + ", 3)", x.as(from, to, 3), NONE);
                    due("post(" + from + ", " + to + ", 0)", x.post(from, to, 0), 0);
                }
            }
            due("seat(" + from + ", NONE)", x.seat(from, NONE), NONE);
        }
        due("room(2)", x.room(2), 2);
        due("mend(0)", x.mend(0), -3);
    }

    private static void objectsAreApart() {
        of("1 two objects");
        LetterTurns x = new LetterTurns();
        long empty = x.digest();
        LetterTurns y = talk("!1a;!1b", "?0a");
        one(y, "01a");
        write(y, "abc");
        y.post(0, 1, 3);
        y.room(3);
        y.go(0);
        due("the other one's digest()", x.digest(), empty);
        due("a third one's digest()", new LetterTurns().digest(), empty);
    }

    // ---- 2

    private static void bytesOfLetters() {
        of("2 a byte above 126");
        for (int i = 0; i < 8; i++) {
            long ahead = word("abcdefg".substring(0, i));
            for (int code : new int[] {1, 2, 125, 126}) {
                due("byte " + i + " is " + code, new LetterTurns().letters(ahead | (long) code << 8 * i), i + 1);
            }
            for (int code : new int[] {127, 128, 129, 254, 255}) {
                LetterTurns x = new LetterTurns();
                long w = ahead | (long) code << 8 * i;
                idle(x, "byte " + i + " is " + code, () -> x.letters(w), OUTSIDE);
            }
        }
        due("eight of 126", new LetterTurns().letters(0x7e7e7e7e7e7e7e7eL), 8);
        due("eight of 127", new LetterTurns().letters(0x7f7f7f7f7f7f7f7fL), OUTSIDE);
        due("the highest byte is 128", new LetterTurns().letters(Long.MIN_VALUE), OUTSIDE);
        due("all are 255", new LetterTurns().letters(-1), OUTSIDE);
        due("Long.MAX_VALUE", new LetterTurns().letters(Long.MAX_VALUE), OUTSIDE);
    }

    private static void zeroesInLetters() {
        of("2 until a byte that is 0");
        for (int signs = 0; signs <= 8; signs++) {
            due(signs + " signs", new LetterTurns().letters(word("abcdefgh".substring(0, signs))), signs);
        }
        for (int zero = 0; zero < 7; zero++) {
            for (int behind = zero + 1; behind < 8; behind++) {
                LetterTurns x = new LetterTurns();
                long w = word("abcdefg".substring(0, zero)) | 1L << 8 * behind;
                idle(x, "0 at " + zero + ", 1 at " + behind, () -> x.letters(w), OUTSIDE);
            }
        }
        LetterTurns x = new LetterTurns();
        due("nothing at all", x.letters(0), 0);
        due("then one", x.letters('a'), 1);
        due("nothing behind it", x.letters(0), 1);
    }

    private static LetterTurns pageOf(int signs) {
        LetterTurns x = new LetterTurns();
        due("a page of " + signs, write(x, FULL_PAGE.substring(0, signs)), signs);
        return x;
    }

    private static void fullPage() {
        of("2 above 60 signs");
        for (int signs = 52; signs <= 60; signs++) {
            for (int more = 0; more <= 8; more++) {
                LetterTurns x = pageOf(signs);
                long w = word("abcdefgh".substring(0, more));
                if (signs + more <= 60) {
                    due(signs + " and " + more, x.letters(w), signs + more);
                    due("count(2)", x.count(2), signs + more);
                } else {
                    idle(x, signs + " and " + more, () -> x.letters(w), FULL);
                    due("count(2)", x.count(2), signs);
                }
            }
        }
        LetterTurns x = pageOf(60);
        idle(x, "OUTSIDE ahead of FULL: 127", () -> x.letters(127), OUTSIDE);
        idle(x, "OUTSIDE ahead of FULL: behind a 0", () -> x.letters(0x610061), OUTSIDE);
        idle(x, "the first sign alone lies behind a 0", () -> x.letters(0x6100), OUTSIDE);
        due("the page is whole", x.book(), 0);
        due("room again", x.letters(word("abcdefgh")), 8);
    }

    private static void orderOfSigns() {
        of("2 the lowest byte first");
        LetterTurns x = new LetterTurns();
        due("!1a", x.letters('!' | '1' << 8 | 'a' << 16), 3);
        due("behind the page", x.letters(';' | '?' << 8), 5);
        due("behind the page", x.letters('2' | 'd' << 8), 7);
        due("fault(0)", x.fault(0), 7);
        due("book()", x.book(), 0);
        due("act(0, 1)", x.act(0, 1), 10);
        due("act(0, 2)", x.act(0, 2), 123);
    }

    // ---- 3

    private static void blank() {
        of("3 blank");
        LetterTurns x = talk("!1a;!1b");
        one(x, "01a");
        x.go(0);
        long before = x.digest();
        due("an empty page", x.blank(), 0);
        due("nothing changes", x.digest(), before);
        write(x, "a");
        due("one sign", x.blank(), 1);
        due("nothing else changes", x.digest(), before);
        due("it is empty now", x.blank(), 0);
        due("count(2)", x.count(2), 0);
        due("fault(0)", x.fault(0), 0);
        due("60 signs", write(x, FULL_PAGE), 60);
        due("60 signs", x.blank(), 60);
        due("nothing of it is left", x.letters('!'), 1);
        due("fault(0)", x.fault(0), 1);
        due("blank() tells what there was", x.blank(), 1);
        due("book()", x.book(), STATE);
    }

    // ---- 4

    private static void faultSorts() {
        of("4 fault: the sort");
        LetterTurns x = pageOf(7);
        for (int sort : new int[] {MIN, -2, -1, 2, 3, MAX}) {
            idle(x, "fault(" + sort + ")", () -> x.fault(sort), OUTSIDE);
        }
        LetterTurns empty = new LetterTurns();
        for (int sort : new int[] {-1, 2}) {
            idle(empty, "fault(" + sort + ") of an empty page", () -> empty.fault(sort), OUTSIDE);
        }
        idle(empty, "fault(0) of an empty page", () -> empty.fault(0), 0);
        idle(empty, "fault(1) of an empty page", () -> empty.fault(1), 0);
        LetterTurns y = pageOf(60);
        idle(y, "fault(0) of a full page", () -> y.fault(0), 60);
        idle(y, "fault(1) of a full page", () -> y.fault(1), 2);
        write(x, "~");
        idle(x, "fault(0)", () -> x.fault(0), 7);
    }

    /** Whether each sign from 1 to 126 may stand behind a start, and only these. */
    private static void onlyThese(String start, String may, int sort) {
        for (char sign = 1; sign <= 126; sign++) {
            int want = may.indexOf(sign) >= 0 ? start.length() + 1 : start.length();
            due("fault(" + sort + ") of \"" + start + "\" and sign " + (int) sign, fault(start + sign, sort), want);
        }
    }

    private static void faultOfEachSign() {
        of("4 fault: what a BOOK has there");
        onlyThese("", "!?{", 0);
        onlyThese("!", "012", 0);
        onlyThese("?", "012", 0);
        onlyThese("!2", "abcd", 0);
        onlyThese("?0", "abcd", 0);
        onlyThese("!0a", ";", 0);
        onlyThese("!0a;", "!?{", 0);
        onlyThese("{", "!?{", 0);
        onlyThese("{!0a", ";+}", 0);
        onlyThese("{!0a+", "!?{", 0);
        onlyThese("{!0a}", ";*", 0);
        onlyThese("{!0a}*", ";", 0);
        onlyThese("{{!0a}", ";+}*", 0);
        onlyThese("{{!0a}*", ";+}", 0);
        onlyThese("{{!0a}*}", ";*", 0);
        onlyThese("{!0a;{!0a}", ";+}*", 0);
        onlyThese("{!0a};{!0a}", ";*", 0);
        due("the first of two", fault("!0a;x;x", 0), 4);
        due("the 60th sign", fault(FULL_PAGE.substring(0, 59) + "+", 0), 59);
        due("the first sign of 60", fault("}" + FULL_PAGE.substring(1), 0), 0);
    }

    private static void faultOfOneSigns() {
        of("4 fault: what a ONE has there");
        onlyThese("", "012{", 1);
        onlyThese("0", "12", 1);
        onlyThese("1", "02", 1);
        onlyThese("2", "01", 1);
        onlyThese("20", "abcd", 1);
        onlyThese("01a", ";", 1);
        onlyThese("01a;", "012{", 1);
        onlyThese("{", "012{", 1);
        onlyThese("{01a", ";+}", 1);
        onlyThese("{01a+", "012{", 1);
        onlyThese("{01a}", ";*", 1);
        onlyThese("{01a}*", ";", 1);
        onlyThese("{{01a}*", ";+}", 1);
    }

    private static void faultOfAnyLength() {
        of("4 fault: of any length");
        due("60 braces could be closed on a longer page", fault("{".repeat(60), 0), 60);
        due("60 braces of a one", fault("{".repeat(60), 1), 60);
        due("a 16th act could follow", fault("!0a;".repeat(15), 0), 60);
        due("a 16th act of a one", fault("01a;".repeat(15), 1), 60);
        due("the page ends within an act", fault("{" + "?2d;".repeat(14) + "!0a", 0), 60);
        due("the page ends within an act of a one", fault("{{" + "21d;".repeat(14) + "20", 1), 60);
        LetterTurns x = new LetterTurns();
        write(x, "!0a;".repeat(15));
        due("it is no book", x.book(), STATE);
    }

    private static void faultLooksAtSignsAlone() {
        of("4 fault: what may be done by doing nothing is not looked at");
        LetterTurns x = new LetterTurns();
        write(x, "{{!0a}*}*");
        due("fault(0)", x.fault(0), 9);
        due("book()", x.book(), STATE);
        x.blank();
        write(x, "{{01a}*+12b}*");
        due("fault(1)", x.fault(1), 13);
        due("one()", x.one(), STATE);
        due("fault(0)", x.fault(0), 2);
    }

    // ---- 5

    private static void noBook(String text) {
        LetterTurns x = new LetterTurns();
        write(x, text);
        idle(x, "book() of \"" + text + "\"", x::book, STATE);
        due("the page stays", x.count(2), text.length());
        due("count(0)", x.count(0), 0);
    }

    private static void bookRefused() {
        of("5 book: it is none");
        noBook("");
        noBook("!");
        noBook("!0");
        noBook("!0a;");
        noBook("!0a;!");
        noBook("{");
        noBook("{}");
        noBook("{}*");
        noBook("{!0a");
        noBook("{!0a;");
        noBook("{!0a+");
        noBook("{!0a+}");
        noBook("{{!0a}");
        noBook("{!0a}}");
        noBook("!0a+!0b");
        noBook("!0a!0b");
        noBook("!0a*");
        noBook("{!0a}**");
        noBook("!3a");
        noBook("!0e");
        noBook("01a");
        noBook(";!0a");
        noBook("!0a ");
        noBook("{".repeat(60));
        noBook("!0a;".repeat(15));
    }

    private static void bookSizes() {
        of("5 book: sizes");
        LetterTurns x = new LetterTurns();
        due("3 signs", book(x, "?2d"), 0);
        due("1 act", x.about(0, 0), 1);
        due("14 acts on 60 signs", book(x, FULL_PAGE), 1);
        due("14 acts", x.about(1, 0), 14);
        due("15 acts on 59 signs", book(x, row("?1c", 15)), 2);
        due("15 acts", x.about(2, 0), 15);
        due("act(2, 15)", x.act(2, 15), 112);
        due("follow(2, 15)", x.follow(2, 15), 1);
        due("28 braces deep, on 60 signs", book(x, "{".repeat(28) + "!0a" + "}".repeat(28) + "*"), 3);
        due("follow(3, 0)", x.follow(3, 0), 3);
        due("29 braces deep would be 61", write(x, "{".repeat(29) + "!0a" + "}".repeat(28)), 60);
        due("book()", x.book(), STATE);
    }

    private static void eightBooks() {
        of("5 book: 8 at most");
        LetterTurns x = new LetterTurns();
        for (int number = 0; number < 8; number++) {
            write(x, "!1" + (char) ('a' + number % 4));
            due("book()", x.book(), number);
            due("the page is empty then", x.count(2), 0);
            due("count(0)", x.count(0), number + 1);
        }
        due("book() of nothing: STATE ahead of FULL", x.book(), STATE);
        write(x, "!0a");
        idle(x, "a ninth", x::book, FULL);
        due("the page stays", x.count(2), 3);
        write(x, ";");
        idle(x, "STATE ahead of FULL", x::book, STATE);
        x.blank();
        write(x, "{{!0a}*}*");
        idle(x, "STATE ahead of FULL", x::book, STATE);
        x.blank();
        due("a one is no book: there is room", one(x, "01a"), 0);
        due("the eighth", x.act(7, 1), 13);
        due("no ninth", x.act(8, 1), UNKNOWN);
    }

    private static void idleLoops() {
        of("5 nothing within { }* may be done by doing nothing");
        noBook("{{!0a}*}*");
        noBook("{{{!0a}*}}*");
        noBook("{{!0a}*;{!0b}*}*");
        noBook("{!0a+{!0b}*}*");
        noBook("{{!0a}*+!0b}*");
        noBook("{!0a+{{!0b}*+!0c}}*");
        noBook("!0a;{{!0b}*}*");
        noBook("{{{!0a}*}*;!0b}*");
        noBook("{{{!0a}*}*}");
        noBook("{!0c+{!0a;!0b+{!0a}*}*}");
        noBook("{{!0a}*}*;!0b");
        for (String text : new String[] {"{{!0a}}*", "{{!0a}*}", "{!0a;{!0b}*}*", "{{!0b}*;!0a}*", "{{!0a}*;{!0b}*}",
            "{{!0a}*+{!0b}*}", "{{!0a}*;{!0c+!0d};{!0b}*}*", "{!0a};{!0b}*"}) {
            due("book() of " + text, book(new LetterTurns(), text), 0);
        }
    }

    // ---- 6

    private static void noOne(String text) {
        LetterTurns x = new LetterTurns();
        write(x, text);
        idle(x, "one() of \"" + text + "\"", x::one, STATE);
        due("the page stays", x.count(2), text.length());
        due("count(1)", x.count(1), 0);
    }

    private static void oneRefused() {
        of("6 one: it is none");
        noOne("");
        noOne("0");
        noOne("01");
        noOne("01a;");
        noOne("{01a");
        noOne("{01a}}");
        noOne("01a+12b");
        noOne("01a*");
        noOne("00a");
        noOne("11a");
        noOne("22d");
        noOne("03a");
        noOne("31a");
        noOne("01e");
        noOne("!0a");
        noOne("01a12b");
        noOne("{{01a}*}*");
        noOne("{01a+{12b}*}*");
        noOne("{{01a}*;{12b}*}*");
        noOne("{".repeat(60));
        noOne("01a;".repeat(15));
    }

    private static void threeOnes() {
        of("6 one: 3 at most");
        LetterTurns x = new LetterTurns();
        String[] texts = {"20d", row("12b", 15), "{{" + row("01a", 14) + "}}*"};
        for (int number = 0; number < 3; number++) {
            write(x, texts[number]);
            due("one()", x.one(), number);
            due("the page is empty then", x.count(2), 0);
            due("count(1)", x.count(1), number + 1);
            due("count(0)", x.count(0), 0);
        }
        idle(x, "one() of nothing: STATE ahead of FULL", x::one, STATE);
        write(x, "01a");
        idle(x, "a fourth", x::one, FULL);
        due("the page stays", x.count(2), 3);
        write(x, "+");
        idle(x, "STATE ahead of FULL", x::one, STATE);
        x.blank();
        write(x, "{{01a}*}*");
        idle(x, "STATE ahead of FULL", x::one, STATE);
        x.blank();
        due("a book is no one: there is room", book(x, "!0a"), 0);
        due("own(2, 1)", x.own(2, 1), 1);
        due("14 acts", x.about(1, 0), 14);
        due("own(1, 2)", x.own(1, 2), 2);
        due("15 acts", x.about(2, 0), 15);
        due("act(2, 15)", x.act(2, 15), 111);
    }

    // ---- 7

    private static void ownRefused() {
        of("7 own: refusals");
        LetterTurns x = new LetterTurns();
        idle(x, "own(0, 0) of none", () -> x.own(0, 0), UNKNOWN);
        one(x, "01a");
        one(x, "12b");
        int[][] unknown = {{-1, 0}, {2, 0}, {3, 0}, {MIN, 0}, {MAX, 0}, {0, -1}, {0, 3}, {1, MIN}, {1, MAX}, {2, 3}, {-1, -1}};
        for (int[] u : unknown) {
            idle(x, "own(" + u[0] + ", " + u[1] + ")", () -> x.own(u[0], u[1]), UNKNOWN);
        }
        for (int number = 0; number < 8; number++) {
            due("own(" + number % 2 + ", " + number % 3 + ")", x.own(number % 2, number % 3), number);
        }
        idle(x, "a ninth", () -> x.own(0, 0), FULL);
        idle(x, "a ninth", () -> x.own(1, 2), FULL);
        idle(x, "UNKNOWN ahead of FULL: one", () -> x.own(2, 0), UNKNOWN);
        idle(x, "UNKNOWN ahead of FULL: office", () -> x.own(0, 3), UNKNOWN);
        due("count(0)", x.count(0), 8);
        due("count(1)", x.count(1), 2);
    }

    private static void ownOfNothing() {
        of("7 own: acts that are left out");
        LetterTurns x = new LetterTurns();
        one(x, "{01a+01b}*;01c");
        due("nothing is left for 2", x.own(0, 2), 0);
        due("no acts", x.about(0, 0), 0);
        due("place 0 is an end", x.about(0, 1), 1);
        due("one place", x.about(0, 2), 1);
        due("one end", x.about(0, 3), 1);
        due("no act", x.act(0, 1), UNKNOWN);
        due("follow(0, 0)", x.follow(0, 0), 1);
        due("no place behind it", x.follow(0, 1), UNKNOWN);
        due("a row of none", x.watch(0), 100);
        due("it can be anybody's", x.seat(2, 0), NONE);
        due("at(2)", x.at(2), 0);
        due("its twin", x.twin(0), 1);
        due("is the same", x.same(0, 1), 1);
        due("no row tells them apart", x.apart(0, 1, 0), NONE);
        one(x, "{01a;{12b+01c}}*");
        due("within a loop", x.own(1, 2), 2);
        due("follow(2, 0)", x.follow(2, 0), 3);
        due("follow(2, 1)", x.follow(2, 1), 3);
        one(x, "02a;{01a+{12b}*;01c};20d");
        due("a choice that may be nothing", x.own(2, 2), 3);
        due("acts", x.about(3, 0), 3);
        due("follow(3, 1)", x.follow(3, 1), 4 + 8);
        due("follow(3, 2)", x.follow(3, 2), 4 + 8);
        due("follow(3, 3)", x.follow(3, 3), 1);
        due("one that is the same as nothing", x.own(0, 2), 4);
        due("same(0, 4)", x.same(0, 4), 1);
    }

    private static void ownNumbers() {
        of("7 own: acts by their numbers in the text that is left");
        LetterTurns x = new LetterTurns();
        one(x, "12a;01b;20c;10d");
        due("own(0, 0)", x.own(0, 0), 0);
        due("acts of 0", x.about(0, 0), 3);
        due("act(0, 1)", x.act(0, 1), 11);
        due("act(0, 2)", x.act(0, 2), 122);
        due("act(0, 3)", x.act(0, 3), 113);
        due("act(0, 4)", x.act(0, 4), UNKNOWN);
        due("own(0, 1)", x.own(0, 1), 1);
        due("act(1, 1)", x.act(1, 1), 20);
        due("act(1, 2)", x.act(1, 2), 101);
        due("act(1, 3)", x.act(1, 3), 3);
        due("own(0, 2)", x.own(0, 2), 2);
        due("acts of 2", x.about(2, 0), 2);
        due("act(2, 1)", x.act(2, 1), 110);
        due("act(2, 2)", x.act(2, 2), 2);
        due("follow(2, 1)", x.follow(2, 1), 4);
    }

    private static void oneIsKept() {
        of("6 a one is kept as it was written");
        LetterTurns x = new LetterTurns();
        one(x, "01a;12b");
        one(x, "21c");
        write(x, "{!0a+!1b}*;!2c");
        due("one() of a book", x.one(), STATE);
        x.fault(0);
        x.book();
        due("own(0, 1)", x.own(0, 1), 1);
        due("acts", x.about(1, 0), 2);
        due("act(1, 1)", x.act(1, 1), 100);
        due("act(1, 2)", x.act(1, 2), 21);
        due("own(1, 1)", x.own(1, 1), 2);
        due("act(2, 1)", x.act(2, 1), 122);
        due("acts", x.about(2, 0), 1);
    }

    // ---- 8

    private static void twinRefused() {
        of("8 twin: refusals");
        LetterTurns x = new LetterTurns();
        idle(x, "twin(0) of none", () -> x.twin(0), UNKNOWN);
        book(x, "!1a");
        for (int number : new int[] {MIN, -1, 1, 2, 8, MAX}) {
            idle(x, "twin(" + number + ")", () -> x.twin(number), UNKNOWN);
        }
        for (int number = 1; number < 8; number++) {
            due("twin(" + (number - 1) + ")", x.twin(number - 1), number);
            due("act(" + number + ", 1)", x.act(number, 1), number % 2 == 0 ? 10 : 110);
        }
        idle(x, "a ninth", () -> x.twin(0), FULL);
        idle(x, "a ninth", () -> x.twin(7), FULL);
        idle(x, "UNKNOWN ahead of FULL", () -> x.twin(8), UNKNOWN);
        idle(x, "UNKNOWN ahead of FULL", () -> x.twin(-1), UNKNOWN);
    }

    private static void twinOfEdges() {
        of("8 twin");
        LetterTurns x = shelf("{!0a;?2d}*;?0a;!2d", row("!1b", 15));
        due("twin(0)", x.twin(0), 2);
        int[] want = {100, 23, 0, 123};
        for (int act = 1; act <= 4; act++) {
            due("act(2, " + act + ")", x.act(2, act), want[act - 1]);
        }
        for (int place = 0; place <= 4; place++) {
            due("follow(2, " + place + ")", x.follow(2, place), x.follow(0, place));
        }
        due("the first stays", x.act(0, 1), 0);
        due("twin(1)", x.twin(1), 3);
        due("act(3, 15)", x.act(3, 15), 111);
        due("act(1, 15)", x.act(1, 15), 11);
        due("twin(3)", x.twin(3), 4);
        due("the twin's twin", x.same(1, 4), 1);
    }

    // ---- 9

    private static void about() {
        of("9 about");
        LetterTurns x = shelf("{!1a}*", "!1a;!1b");
        for (int number : new int[] {MIN, -1, 2, 3, 8, MAX}) {
            for (int what : new int[] {-1, 0, 1, 2, 3, 4}) {
                idle(x, "about(" + number + ", " + what + ")", () -> x.about(number, what), UNKNOWN);
            }
        }
        for (int what : new int[] {MIN, -1, 4, 5, MAX}) {
            idle(x, "about(0, " + what + ")", () -> x.about(0, what), OUTSIDE);
        }
        int[][] want = {{1, 1, 1, 2}, {2, 0, 3, 1}};
        for (int number = 0; number < 2; number++) {
            for (int what = 0; what <= 3; what++) {
                int b = number;
                int w = what;
                idle(x, "about(" + b + ", " + w + ")", () -> x.about(b, w), want[b][w]);
            }
        }
        LetterTurns y = shelf(row("!1a", 15), "{" + row("!1a", 14).replace(";", "+") + "}*");
        due("acts of 15", y.about(0, 0), 15);
        due("places of 15", y.about(0, 2), 16);
        due("ends of 15", y.about(0, 3), 1);
        due("ends of 14", y.about(1, 3), 15);
        due("places of 14", y.about(1, 2), 1);
    }

    private static void fewest() {
        of("9 fewest places");
        LetterTurns x = shelf("{!1a;!1b+!1a;!1c}", "{!1a;!1b+!2a;!1b}", "{!1a;!1b+?1a;!1c}", "{!1a;{!1a}*+!1b}",
                "{!1a+!1a;!1a}*", "{!1a;!1a}*;{!1a;!1a;!1a}*", "{!1a;!1b}*", "!1a;{!1b;!1a}*");
        int[] want = {3, 3, 4, 3, 1, 3, 2, 2};
        for (int number = 0; number < 8; number++) {
            due("about(" + number + ", 2)", x.about(number, 2), want[number]);
        }
        LetterTurns y = shelf("{!1a+!1b}*;!1a;" + row("{!1a+!1b}", 4), "{{!1a;!1a;!1a}*+{!1a;!1a;!1a;!1a}*+{!1a;!1a;!1a;!1a;!1a}*}");
        due("what came 5 acts ahead", y.about(0, 2), 32);
        due("by 3, 4 and 5", y.about(1, 2), 60);
    }

    // ---- 10 and 11

    private static void act() {
        of("10 act");
        LetterTurns x = shelf("!0a;?2d", row("?1b", 15));
        for (int number : new int[] {MIN, -1, 2, 8, MAX}) {
            for (int act : new int[] {0, 1, 2}) {
                idle(x, "act(" + number + ", " + act + ")", () -> x.act(number, act), UNKNOWN);
            }
        }
        for (int act : new int[] {MIN, -1, 0, 3, 15, MAX}) {
            idle(x, "act(0, " + act + ")", () -> x.act(0, act), UNKNOWN);
        }
        idle(x, "act(0, 1)", () -> x.act(0, 1), 0);
        idle(x, "act(0, 2)", () -> x.act(0, 2), 123);
        due("act(1, 14)", x.act(1, 14), 111);
        due("act(1, 15)", x.act(1, 15), 111);
        due("act(1, 16)", x.act(1, 16), UNKNOWN);
        LetterTurns y = shelf("!0a;!0d;!1a;!2d;?0a;?0d;?1b;?2c");
        int[] want = {0, 3, 10, 23, 100, 103, 111, 122};
        for (int act = 1; act <= 8; act++) {
            due("act(0, " + act + ")", y.act(0, act), want[act - 1]);
        }
    }

    private static void follow() {
        of("11 follow");
        LetterTurns x = shelf("!0a;?2d", row("?1b", 15), "{!1a}*");
        for (int number : new int[] {MIN, -1, 3, 8, MAX}) {
            for (int place : new int[] {-1, 0, 1}) {
                idle(x, "follow(" + number + ", " + place + ")", () -> x.follow(number, place), UNKNOWN);
            }
        }
        for (int place : new int[] {MIN, -1, 3, 4, 16, MAX}) {
            idle(x, "follow(0, " + place + ")", () -> x.follow(0, place), UNKNOWN);
        }
        idle(x, "follow(0, 0)", () -> x.follow(0, 0), 2);
        idle(x, "follow(0, 2)", () -> x.follow(0, 2), 1);
        due("follow(1, 0)", x.follow(1, 0), 2);
        due("follow(1, 14)", x.follow(1, 14), 1 << 15);
        due("follow(1, 15)", x.follow(1, 15), 1);
        due("follow(1, 16)", x.follow(1, 16), UNKNOWN);
        due("follow(2, 0)", x.follow(2, 0), 3);
        due("follow(2, 1)", x.follow(2, 1), 3);
        due("follow(2, 2)", x.follow(2, 2), UNKNOWN);
    }

    // ---- 12

    private static void same() {
        of("12 same");
        LetterTurns x = shelf("!1a", "{!1a}", "!1b");
        for (int number : new int[] {MIN, -1, 3, 8, MAX}) {
            idle(x, "same(" + number + ", 0)", () -> x.same(number, 0), UNKNOWN);
            idle(x, "same(2, " + number + ")", () -> x.same(2, number), UNKNOWN);
            idle(x, "same(" + number + ", itself)", () -> x.same(number, number), UNKNOWN);
        }
        for (int a = 0; a < 3; a++) {
            for (int b = 0; b < 3; b++) {
                int first = a;
                int second = b;
                idle(x, "same(" + a + ", " + b + ")", () -> x.same(first, second), a == b || a + b == 1 ? 1 : 0);
            }
        }
        LetterTurns y = shelf(row("!1a", 15), row("!1a", 14), row("!1a", 14) + ";!1b", "{" + row("!1a", 13) + "};!1a");
        due("15 and 14 acts", y.same(0, 1), 0);
        due("the 15th is unlike", y.same(0, 2), 0);
        due("14 acts and braces", y.same(1, 3), 1);
    }

    // ---- 13

    private static void apartRefused() {
        of("13 apart: refusals");
        LetterTurns x = shelf("!1a", "!1a;!1b");
        for (int number : new int[] {MIN, -1, 2, 8, MAX}) {
            for (int what : new int[] {-1, 0, 2, 10, 100}) {
                idle(x, "apart(" + number + ", 0, " + what + ")", () -> x.apart(number, 0, what), UNKNOWN);
                idle(x, "apart(1, " + number + ", " + what + ")", () -> x.apart(1, number, what), UNKNOWN);
            }
        }
        for (int what : new int[] {MIN, -1, 2, 3, 9, 100, 101, 110, MAX}) {
            idle(x, "apart(0, 1, " + what + ")", () -> x.apart(0, 1, what), OUTSIDE);
            idle(x, "apart(1, 1, " + what + "): OUTSIDE where they do the same", () -> x.apart(1, 1, what), OUTSIDE);
        }
        for (int what : new int[] {0, 1, 10, 11, 99}) {
            idle(x, "apart(1, 1, " + what + ")", () -> x.apart(1, 1, what), NONE);
        }
        idle(x, "apart(0, 1, 0)", () -> x.apart(0, 1, 0), 1);
        idle(x, "apart(0, 1, 1)", () -> x.apart(0, 1, 1), 1);
        idle(x, "apart(1, 0, 1)", () -> x.apart(1, 0, 1), 0);
        idle(x, "apart(0, 1, 10)", () -> x.apart(0, 1, 10), 10);
        idle(x, "apart(0, 1, 11)", () -> x.apart(0, 1, 11), NONE);
        idle(x, "apart(0, 1, 99)", () -> x.apart(0, 1, 99), NONE);
    }

    private static void apartRows() {
        of("13 apart: how long the row is");
        LetterTurns x = shelf("{!1a}*", "!1a;{!1a}*", row("!1a", 13), row("!1a", 12) + ";{!1a+!1a}",
                "{{!1a;!1a}*+{" + row("!1a", 11) + "}*}", "{{!1a;!1a}*+!1a;!1a;{" + row("!1a", 9) + "}*}");
        due("the empty row", x.apart(0, 1, 0), 0);
        due("who takes it", x.apart(0, 1, 1), 1);
        due("who takes it", x.apart(1, 0, 1), 0);
        due("its first act", x.apart(0, 1, 10), NONE);
        due("13 acts or 13 acts", x.apart(2, 3, 0), NONE);
        due("one act", x.apart(1, 2, 0), 1);
        due("who takes it", x.apart(2, 1, 1), 0);
        due("29 acts", x.apart(4, 5, 0), 29);
        due("who takes it", x.apart(4, 5, 1), 0);
        due("the 29th", x.apart(4, 5, 38), 10);
        due("a 30th", x.apart(4, 5, 39), NONE);
        LetterTurns y = shelf("{{!1a;!1a}*+{" + row("!1a", 11) + "}*}", "{{!1a;!1a}*+" + row("!1a", 11) + "}");
        due("33 acts", y.apart(0, 1, 0), 33);
        due("who takes it", y.apart(0, 1, 1), 1);
        due("the 33rd", y.apart(0, 1, 42), 10);
        due("a 34th", y.apart(0, 1, 43), NONE);
        LetterTurns z = shelf(row("!1a", 15), row("!1a", 14) + ";!1b");
        due("15 acts", z.apart(0, 1, 0), 15);
        due("the first taker", z.apart(0, 1, 1), 1);
        due("the 15th", z.apart(0, 1, 24), 10);
        due("a 16th", z.apart(0, 1, 25), NONE);
        due("the other way round", z.apart(1, 0, 24), 10);
        due("the other way round", z.apart(1, 0, 1), 0);
    }

    private static void apartOrder() {
        of("13 apart: of like ones the first");
        String[] acts = {"!0a", "!0b", "!0d", "!1a", "!2a", "!2d", "?0a", "?0d", "?1a", "?2d"};
        int[] codes = {0, 1, 3, 10, 20, 23, 100, 103, 110, 123};
        for (int a = 0; a < acts.length; a++) {
            for (int b = 0; b < acts.length; b++) {
                if (a != b) {
                    LetterTurns x = shelf(acts[a], acts[b]);
                    due(acts[a] + " or " + acts[b], x.apart(0, 1, 10), codes[Math.min(a, b)]);
                    due("whose it is", x.apart(0, 1, 1), a < b ? 1 : 0);
                }
            }
        }
        LetterTurns x = shelf("{!1b;!1a+!1a;!1d}", "{!1b;!1b+!1a;!1c}", "{!1a;!1c+!1b;!1a}", "{!1c+!1a;!1a}", "{!1d+!1a;!1b}");
        due("act by act, the first act first", x.apart(0, 1, 10), 10);
        due("then the second", x.apart(0, 1, 11), 12);
        due("whose it is", x.apart(0, 1, 1), 0);
        due("a row that both take does not count", x.apart(1, 2, 10), 11);
        due("its second act", x.apart(1, 2, 11), 10);
        due("a shorter row goes ahead of all", x.apart(3, 4, 0), 1);
        due("a shorter row goes ahead of all", x.apart(3, 4, 10), 12);
    }

    // ---- 14

    private static void watchRefused() {
        of("14 watch: refusals");
        LetterTurns x = shelf("{!1a}*");
        for (int number : new int[] {MIN, -1, 1, 8, MAX}) {
            idle(x, "watch(" + number + ")", () -> x.watch(number), UNKNOWN);
        }
        String[] none = {"!", "!1", "!1a!", "!1a!1", "1!a", "a!1", "01a", "!1a;", "!1a;!1a", " !1a", "!3a", "!/a", "!1e", "!1`",
            "\"1a", "!1a!1a!1a!1e", "{!1a}", "!1a".repeat(19) + "!1", "!1a".repeat(19) + "!3a"};
        for (String page : none) {
            x.blank();
            write(x, page);
            idle(x, "watch(0) of " + page, () -> x.watch(0), STATE);
            due("watch(1) of " + page + ": UNKNOWN ahead of STATE", x.watch(1), UNKNOWN);
        }
        LetterTurns y = shelf("{!1a}*", "!1a");
        idle(y, "a page of none is a row of acts", () -> y.watch(0), 100);
        idle(y, "a page of none is a row of acts", () -> y.watch(1), 0);
    }

    private static void watchCounts() {
        of("14 watch");
        LetterTurns x = shelf("{!1a+?2d}*", row("!0a", 15), "!1a;{!1b+!1c;!1a}");
        due("20 acts, all", watch(x, 0, "!1a".repeat(20)), 120);
        due("20 acts, all but the last", watch(x, 0, "!1a".repeat(19) + "?1a"), 19);
        due("20 acts, none", watch(x, 0, "!1b" + "?2d".repeat(19)), 0);
        due("14 of 15", watch(x, 1, "!0a".repeat(14)), 14);
        due("15 of 15", watch(x, 1, "!0a".repeat(15)), 115);
        due("a 16th", watch(x, 1, "!0a".repeat(16)), 15);
        due("one, no end", watch(x, 2, "!1a"), 1);
        due("two, an end", watch(x, 2, "!1a!1b"), 102);
        due("two, no end", watch(x, 2, "!1a!1c"), 2);
        due("three, an end", watch(x, 2, "!1a!1c!1a"), 103);
        due("what comes behind the end", watch(x, 2, "!1a!1b!1a"), 2);
        due("what comes behind the first wrong one", watch(x, 2, "!1a?1b!1b"), 1);
        x.blank();
        write(x, "!1a");
        idle(x, "the page stays", () -> x.watch(0), 101);
        due("count(2)", x.count(2), 3);
    }
}
