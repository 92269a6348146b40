/** Each promise of the document by itself: ordinary inputs, the edges that it names, and wrong inputs. */
public final class PromiseTest extends Desk {
    /** A text of 60 signs whose machine needs many places. */
    private static final String MANY = "{!1b;!1b;!1b;!1b;!1b;{!1b;{!1b+{!1a}*};!1b};!1b}*;!1a;{!1b}*";
    private static final String CHAIN = "!1a;!1a;!1a;!1a;!1a;!1a;!1a;!1a;!1a;!1a;!1a;!1a;!1a;!1a;!1a";

    public static void main(String[] args) {
        newObject();
        letters();
        blank();
        faultOfBooks();
        faultOfOnes();
        book();
        bookIdleLoops();
        one();
        own();
        twin();
        about();
        act();
        follow();
        same();
        apart();
        watch();
        seat();
        post();
        as();
        room();
        begin();
        steps();
        stepsOfKinds();
        stepsOfMany();
        stepAndGo();
        run();
        at();
        lies();
        now();
        met();
        spentLimit();
        find();
        findWrong();
        findForever();
        most();
        mend();
        mendOnlyThere();
        mendLimits();
        count();
        digest();
        close("PromiseTest");
    }

    // ---- books

    private static void newObject() {
        of("1 a new object");
        LetterTurns x = new LetterTurns();
        for (int what = 0; what <= 5; what++) {
            due("count(" + what + ")", x.count(what), 0);
        }
        for (int office = 0; office < 3; office++) {
            due("at(" + office + ")", x.at(office), NONE);
            due("seat(" + office + ", -1)", x.seat(office, NONE), NONE);
        }
        due("about(0, 0)", x.about(0, 0), UNKNOWN);
        due("own(0, 0)", x.own(0, 0), UNKNOWN);
        due("post(2, 1, 0)", x.post(2, 1, 0), 0);
        due("room(2)", x.room(2), 2);
        due("steps()", x.steps(), 0);
        due("met()", x.met(), 1);
    }

    private static void letters() {
        of("2 letters");
        LetterTurns x = new LetterTurns();
        due("letters(0)", x.letters(0), 0);
        due("letters(126)", x.letters(126), 1);
        due("letters(127)", x.letters(127), OUTSIDE);
        due("letters(1)", x.letters(1), 2);
        due("letters(-1)", x.letters(-1), OUTSIDE);
        due("letters(0x6100)", x.letters(0x6100), OUTSIDE);
        due("letters(0x61006161)", x.letters(0x61006161L), OUTSIDE);
        due("letters(0x8061)", x.letters(0x8061), OUTSIDE);
        due("letters(Long.MIN_VALUE)", x.letters(Long.MIN_VALUE), OUTSIDE);
        due("count(2)", x.count(2), 2);
        due("letters of 8", x.letters(word("abcdefgh")), 10);
        for (int i = 0; i < 6; i++) {
            x.letters(word("12345678"));
        }
        due("count(2)", x.count(2), 58);
        due("three more", x.letters(word("abc")), FULL);
        due("OUTSIDE ahead of FULL", x.letters(word("ab") | 200L << 56), OUTSIDE);
        due("two more", x.letters(word("ab")), 60);
        due("none more", x.letters(0), 60);
        due("one more", x.letters(word("a")), FULL);
        due("count(2)", x.count(2), 60);
    }

    private static void blank() {
        of("3 blank");
        LetterTurns x = new LetterTurns();
        due("blank()", x.blank(), 0);
        write(x, "abc;");
        due("blank()", x.blank(), 4);
        due("blank()", x.blank(), 0);
        due("book() behind it", book(x, "!0a"), 0);
    }

    private static void faultOfBooks() {
        of("4 fault of books");
        due("nothing", fault("", 0), 0);
        due("!0a", fault("!0a", 0), 3);
        due("!", fault("!", 0), 1);
        due("!3a", fault("!3a", 0), 1);
        due("!2e", fault("!2e", 0), 2);
        due("?0A", fault("?0A", 0), 2);
        due("01a", fault("01a", 0), 0);
        due("!0a?0b", fault("!0a?0b", 0), 3);
        due("!0a;", fault("!0a;", 0), 4);
        due("!0a;;", fault("!0a;;", 0), 4);
        due("!0a+!0b", fault("!0a+!0b", 0), 3);
        due("!0a}", fault("!0a}", 0), 3);
        due("!0a*", fault("!0a*", 0), 3);
        due("{}", fault("{}", 0), 1);
        due("{!0a+}", fault("{!0a+}", 0), 5);
        due("{!0a}*", fault("{!0a}*", 0), 6);
        due("{!0a}**", fault("{!0a}**", 0), 6);
        due("{!0a}+!0b", fault("{!0a}+!0b", 0), 5);
        due("{{!0a}+!0b}*", fault("{{!0a}+!0b}*", 0), 12);
        due("{{!0a}}}", fault("{{!0a}}}", 0), 7);
        due("{{!0a}*}*", fault("{{!0a}*}*", 0), 9);
        due("a space", fault("!0a ;!0b", 0), 3);
        due("braces alone", fault("{".repeat(60), 0), 60);
        due("{!0a;{!1b+?2c};!0d+{{?0a}*}}*;!1a", fault("{!0a;{!1b+?2c};!0d+{{?0a}*}}*;!1a", 0), 33);
        due("sort 2", fault("!0a", 2), OUTSIDE);
        due("sort -1", fault("!0a", -1), OUTSIDE);
    }

    private static void faultOfOnes() {
        of("4 fault of ones");
        due("nothing", fault("", 1), 0);
        due("01a", fault("01a", 1), 3);
        due("00a", fault("00a", 1), 1);
        due("13a", fault("13a", 1), 1);
        due("12f", fault("12f", 1), 2);
        due("!0a", fault("!0a", 1), 0);
        due("22", fault("22", 1), 1);
        due("{01a+10b}*;20c", fault("{01a+10b}*;20c", 1), 14);
        due("{01a+10b}*;20c;", fault("{01a+10b}*;20c;", 1), 15);
        due("01a+10b", fault("01a+10b", 1), 3);
        due("{{01a}*}*", fault("{{01a}*}*", 1), 9);
    }

    private static void book() {
        of("5 book");
        LetterTurns x = new LetterTurns();
        due("of nothing", x.book(), STATE);
        write(x, "!0a;");
        due("cut short", x.book(), STATE);
        due("the page stays", x.count(2), 4);
        write(x, "!1b");
        due("whole", x.book(), 0);
        due("the page is empty", x.count(2), 0);
        due("acts", x.about(0, 0), 2);
        due("open braces", book(x, "{!0a"), STATE);
        due("a row of acts without signs between", book(x, "!0a!0b"), STATE);
        due("a one", book(x, "01a"), STATE);
        String longest = "!0a;!1b;?2c;!0d;!0a;!1b;?2c;!0d;!0a;!1b;?2c;!0d;!0a;!1b;?2c";
        due("15 acts", book(x, longest), 1);
        due("about(1, 0)", x.about(1, 0), 15);
        due("act(1, 15)", x.act(1, 15), 122);
        due("follow(1, 14)", x.follow(1, 14), 1 << 15);
        due("follow(1, 15)", x.follow(1, 15), 1);
        due("deep braces", book(x, "{".repeat(28) + "!0a" + "}".repeat(28) + "*"), 2);
        due("follow(2, 1)", x.follow(2, 1), 3);
        for (int number = 3; number < 8; number++) {
            due("book " + number, book(x, "!0a"), number);
        }
        write(x, "!0a");
        due("a ninth", x.book(), FULL);
        due("the page stays", x.count(2), 3);
        write(x, "+");
        due("STATE ahead of FULL", x.book(), STATE);
        due("count(0)", x.count(0), 8);
    }

    private static void bookIdleLoops() {
        of("5 nothing within a loop may be done by doing nothing");
        LetterTurns x = new LetterTurns();
        due("{{!0a}*}*", book(x, "{{!0a}*}*"), STATE);
        due("{!0a+{!0b}*}*", book(x, "{!0a+{!0b}*}*"), STATE);
        due("{{!0a}*;{!0b}*}*", book(x, "{{!0a}*;{!0b}*}*"), STATE);
        due("{{{!0a}*+!0b}}*", book(x, "{{{!0a}*+!0b}}*"), STATE);
        due("!0a;{{{!0b}*}}*;!0c", book(x, "!0a;{{{!0b}*}}*;!0c"), STATE);
        due("{!0a;{!0b}*}*", book(x, "{!0a;{!0b}*}*"), 0);
        due("{{!0a}*+{!0b}*}", book(x, "{{!0a}*+{!0b}*}"), 1);
    }

    private static void one() {
        of("6 one");
        LetterTurns x = new LetterTurns();
        due("of nothing", x.one(), STATE);
        due("a book", one(x, "!0a"), STATE);
        due("to itself", one(x, "11a"), STATE);
        due("cut short", one(x, "{01a;12b"), STATE);
        due("an idle loop", one(x, "{{01a}*+12b}*"), STATE);
        write(x, "{01a;{12b}*}*");
        due("a one", x.one(), 0);
        due("the page is empty", x.count(2), 0);
        due("15 acts", one(x, "01a;01a;01a;01a;01a;01a;01a;01a;01a;01a;01a;01a;01a;01a;01a"), 1);
        due("a third", one(x, "21d"), 2);
        write(x, "01a");
        due("a fourth", x.one(), FULL);
        due("the page stays", x.count(2), 3);
        due("fault(1)", x.fault(1), 3);
        x.blank();
        due("STATE ahead of FULL", x.one(), STATE);
        due("count(1)", x.count(1), 3);
    }

    private static void own() {
        of("7 own");
        LetterTurns x = new LetterTurns();
        due("own(0, 0)", x.own(0, 0), UNKNOWN);
        one(x, "01a;{12b;20c+10d}*");
        due("own(0, 3)", x.own(0, 3), UNKNOWN);
        due("own(0, -1)", x.own(0, -1), UNKNOWN);
        due("own(1, 0)", x.own(1, 0), UNKNOWN);
        due("own(0, 2)", x.own(0, 2), 0);
        due("acts of 2", x.about(0, 0), 2);
        due("act(0, 1)", x.act(0, 1), 111);
        due("act(0, 2)", x.act(0, 2), 2);
        due("follow(0, 0)", x.follow(0, 0), 3);
        due("follow(0, 1)", x.follow(0, 1), 4);
        due("follow(0, 2)", x.follow(0, 2), 3);
        due("own(0, 1)", x.own(0, 1), 1);
        due("act(1, 1)", x.act(1, 1), 100);
        due("act(1, 2)", x.act(1, 2), 21);
        due("act(1, 3)", x.act(1, 3), 3);
        due("follow(1, 1)", x.follow(1, 1), 13);
        due("follow(1, 2)", x.follow(1, 2), 13);
        one(x, "{01a;12b}*;01c");
        due("a loop that does nothing for 2 in part", x.own(1, 2), 2);
        due("follow(2, 1)", x.follow(2, 1), 3);
        one(x, "{01a+01b}*");
        due("nothing is left", x.own(2, 2), 3);
        due("about(3, 0)", x.about(3, 0), 0);
        due("about(3, 2)", x.about(3, 2), 1);
        due("follow(3, 0)", x.follow(3, 0), 1);
        for (int number = 4; number < 8; number++) {
            due("own(0, 0)", x.own(0, 0), number);
        }
        due("a ninth", x.own(0, 0), FULL);
        due("UNKNOWN ahead of FULL", x.own(0, 5), UNKNOWN);
    }

    private static void twin() {
        of("8 twin");
        LetterTurns x = new LetterTurns();
        due("twin(0)", x.twin(0), UNKNOWN);
        book(x, "{!1a;?2d}*;?1b");
        due("twin(-1)", x.twin(-1), UNKNOWN);
        due("twin(0)", x.twin(0), 1);
        due("act(1, 1)", x.act(1, 1), 110);
        due("act(1, 2)", x.act(1, 2), 23);
        due("act(1, 3)", x.act(1, 3), 11);
        due("act(0, 1)", x.act(0, 1), 10);
        for (int place = 0; place <= 3; place++) {
            due("follow(1, " + place + ")", x.follow(1, place), x.follow(0, place));
        }
        due("about(1, 2)", x.about(1, 2), x.about(0, 2));
        due("twin(1)", x.twin(1), 2);
        due("the twin's twin", x.same(0, 2), 1);
        due("the twin", x.same(0, 1), 0);
        for (int number = 3; number < 8; number++) {
            due("twin(2)", x.twin(2), number);
        }
        due("twin(2)", x.twin(2), FULL);
        due("twin(8)", x.twin(8), UNKNOWN);
    }

    private static int about(String text, int what) {
        LetterTurns x = new LetterTurns();
        return x.about(book(x, text), what);
    }

    private static void about() {
        of("9 about");
        due("acts", about("{!0a+?1b}*;!2c", 0), 3);
        due("an end at 0", about("{!0a+?1b}*", 1), 1);
        due("no end at 0", about("{!0a+?1b}*;!2c", 1), 0);
        due("ends", about("{!0a+?1b}*;{!2c}*", 3), 4);
        due("one end", about("{!0a+?1b}*;!2c", 3), 1);
        due("fewest of one act", about("!0a", 2), 2);
        due("fewest of a loop", about("{!0a}*", 2), 1);
        due("fewest of two rows with like ends", about("{!0a;!0b+!1a;!0b}", 2), 3);
        due("fewest of two rows with a like beginning", about("{!0a;!0b+!0a;!0c}", 2), 3);
        due("fewest of what is said twice", about("{!0a;!0b+!0a;!0b}", 2), 3);
        due("fewest of a loop and its loop", about("{!0a;!0a+!0a;!0a;!0a}*", 2), 3);
        due("fewest of what must be remembered", about("{!0a+!0b}*;!0a;{!0a+!0b};{!0a+!0b};{!0a+!0b};{!0a+!0b}", 2), 32);
        due("a send is no wait", about("{!0a;!0b+?0a;!0b}", 2), 3);
        due("loops of 3, 4 and 5", about("{{!1a;!1a;!1a}*+{!1a;!1a;!1a;!1a}*+{!1a;!1a;!1a;!1a;!1a}*}", 2), 60);
        due("fewest of many sets", about(MANY, 2), 131);
        due("fewest of many sets", about("{!1a;!1a;{!1a+!1a;{!1a}+!1b};!1a;{!1a;!1a;!1a+!1b};!1a+!1b}*", 2), 123);
        LetterTurns x = new LetterTurns();
        due("about(0, 0)", x.about(0, 0), UNKNOWN);
        due("UNKNOWN ahead of OUTSIDE", x.about(0, 9), UNKNOWN);
        book(x, "!0a");
        due("about(0, 4)", x.about(0, 4), OUTSIDE);
        due("about(0, -1)", x.about(0, -1), OUTSIDE);
        due("about(1, 0)", x.about(1, 0), UNKNOWN);
        due("about(-1, 0)", x.about(-1, 0), UNKNOWN);
    }

    private static void act() {
        of("10 act");
        LetterTurns x = new LetterTurns();
        book(x, "!0a;{?2d+?0c}*;!1b");
        due("act(0, 1)", x.act(0, 1), 0);
        due("act(0, 2)", x.act(0, 2), 123);
        due("act(0, 3)", x.act(0, 3), 102);
        due("act(0, 4)", x.act(0, 4), 11);
        due("act(0, 5)", x.act(0, 5), UNKNOWN);
        due("act(0, 0)", x.act(0, 0), UNKNOWN);
        due("act(0, -1)", x.act(0, -1), UNKNOWN);
        due("act(1, 1)", x.act(1, 1), UNKNOWN);
        due("act(-1, 1)", x.act(-1, 1), UNKNOWN);
        due("act(0, MAX)", x.act(0, MAX), UNKNOWN);
    }

    private static void follow() {
        of("11 follow");
        LetterTurns x = new LetterTurns();
        book(x, "{!1a;{!1b}*+!1c}*;{!1d;{?1a+?1b}}");
        due("follow(0, 0)", x.follow(0, 0), 2 + 8 + 16);
        due("follow(0, 1)", x.follow(0, 1), 2 + 4 + 8 + 16);
        due("follow(0, 2)", x.follow(0, 2), 2 + 4 + 8 + 16);
        due("follow(0, 3)", x.follow(0, 3), 2 + 8 + 16);
        due("follow(0, 4)", x.follow(0, 4), 32 + 64);
        due("follow(0, 5)", x.follow(0, 5), 1);
        due("follow(0, 6)", x.follow(0, 6), 1);
        due("follow(0, 7)", x.follow(0, 7), UNKNOWN);
        due("follow(0, -1)", x.follow(0, -1), UNKNOWN);
        due("follow(1, 0)", x.follow(1, 0), UNKNOWN);
        book(x, "{!1a}*;{!1b}*;{!1c}*");
        due("follow(1, 0)", x.follow(1, 0), 1 + 2 + 4 + 8);
        due("follow(1, 1)", x.follow(1, 1), 1 + 2 + 4 + 8);
        due("follow(1, 2)", x.follow(1, 2), 1 + 4 + 8);
        due("follow(1, 3)", x.follow(1, 3), 1 + 8);
    }

    private static int same(String a, String b) {
        LetterTurns x = new LetterTurns();
        return x.same(book(x, a), book(x, b));
    }

    private static void same() {
        of("12 same");
        due("themselves", same("!0a", "!0a"), 1);
        due("another letter", same("!0a", "!0b"), 0);
        due("another office", same("!0a", "!1a"), 0);
        due("a wait", same("!0a", "?0a"), 0);
        due("braces", same("{!0a}", "{{!0a+!0a}}"), 1);
        due("a loop and none of it", same("{!0a}*", "!0a;{!0a}*"), 0);
        due("a loop written out", same("!0a;{!1b;!0a}*", "{!0a;!1b}*;!0a"), 1);
        due("loops of choices", same("{!0a+!0b}*", "{!0a}*;{!0b;{!0a}*}*"), 1);
        due("many places", same(MANY, MANY.replace("{!1b+{!1a}*}", "{{!1a}*+!1b}")), 1);
        due("many places and a few", same(MANY, "{!1a+!1b}*"), 0);
        due("loops of 2 and 4", same("{!0a;!0a}*", "{!0a;!0a;!0a;!0a}*"), 0);
        LetterTurns x = new LetterTurns();
        book(x, "!0a");
        due("same(0, 0)", x.same(0, 0), 1);
        due("same(0, 1)", x.same(0, 1), UNKNOWN);
        due("same(-1, 0)", x.same(-1, 0), UNKNOWN);
        due("same(8, 0)", x.same(8, 0), UNKNOWN);
    }

    private static void apart() {
        of("13 apart");
        LetterTurns x = new LetterTurns();
        book(x, "{!1a;!1b}*");
        book(x, "!1a;!1b");
        due("apart(0, 1, 0), the empty row", x.apart(0, 1, 0), 0);
        due("apart(0, 1, 1)", x.apart(0, 1, 1), 1);
        due("apart(1, 0, 1)", x.apart(1, 0, 1), 0);
        due("apart(0, 1, 10)", x.apart(0, 1, 10), NONE);
        book(x, "{!1a;!1b;{!1a;!1b}*}");
        due("apart(1, 2, 0)", x.apart(1, 2, 0), 4);
        due("apart(1, 2, 1)", x.apart(1, 2, 1), 0);
        due("apart(1, 2, 13)", x.apart(1, 2, 13), 11);
        due("apart(1, 2, 14)", x.apart(1, 2, 14), NONE);
        due("apart(1, 2, 99)", x.apart(1, 2, 99), NONE);
        due("apart(1, 2, 100)", x.apart(1, 2, 100), OUTSIDE);
        due("apart(1, 2, 2)", x.apart(1, 2, 2), OUTSIDE);
        due("apart(1, 2, 9)", x.apart(1, 2, 9), OUTSIDE);
        due("apart(1, 2, -1)", x.apart(1, 2, -1), OUTSIDE);
        due("apart(1, 1, 0)", x.apart(1, 1, 0), NONE);
        due("apart(1, 1, 1)", x.apart(1, 1, 1), NONE);
        due("apart(1, 1, 10)", x.apart(1, 1, 10), NONE);
        due("OUTSIDE where they do the same", x.apart(1, 1, 3), OUTSIDE);
        due("apart(1, 3, 0)", x.apart(1, 3, 0), UNKNOWN);
        due("UNKNOWN ahead of OUTSIDE", x.apart(3, 1, 3), UNKNOWN);
        book(x, "{?0a+!2d+!0c;!0c}");
        book(x, "{?0b+!2c+!0c;!0d}");
        due("the first of like ones", x.apart(3, 4, 10), 22);
        due("whose it is", x.apart(3, 4, 1), 0);
        book(x, "{?0a+?0b+!0c;!0c}");
        due("a send ahead of waits", x.apart(3, 5, 10), 23);
        book(x, "{!1a;!1a;!1a;!1a;!1a}*");
        book(x, "{{!1a;!1a;!1a;!1a;!1a}*+{!1a;!1a;!1a;!1a;!1a;!1a;!1a}*}");
        due("apart(6, 7, 0)", x.apart(6, 7, 0), 7);
        due("apart(6, 7, 16)", x.apart(6, 7, 16), 10);
        longRow();
        LetterTurns y = new LetterTurns();
        book(y, "{!1a;!1b}*");
        book(y, "{!1d;!1d;!1d}*");
        due("where the second is lost", y.apart(0, 1, 0), 2);
        due("and the first is", y.apart(1, 0, 0), 2);
        due("apart(0, 1, 11)", y.apart(0, 1, 11), 11);
        due("apart(1, 0, 1)", y.apart(1, 0, 1), 0);
    }

    /** One letter alone, so that loops can be told apart by how often it comes. */
    private static void longRow() {
        LetterTurns x = new LetterTurns();
        book(x, "{!1a;!1a;!1a;!1a;!1a;!1a;!1a;!1a;!1a;!1a;!1a;!1a;!1a}*");
        book(x, "{!1a;!1a;!1a;!1a;!1a;!1a;!1a;!1a;!1a;!1a;!1a;!1a;!1a}*;!1a");
        book(x, "{!1a}*;{!1a;!1a}*");
        due("a loop of 13", x.about(0, 2), 13);
        due("apart(0, 2, 0)", x.apart(0, 2, 0), 1);
        due("apart(0, 1, 0)", x.apart(0, 1, 0), 0);
        LetterTurns y = new LetterTurns();
        book(y, "{!1a;!1a;!1a+!1a;!1a;!1a;!1a;!1a}*");
        book(y, "{!1a;!1a;!1a}*;{!1a;!1a;!1a;!1a;!1a}*");
        due("like sums", y.same(0, 1), 1);
        book(y, "{!1a;!1a;!1a+!1a;!1a;!1a;!1a;!1a;!1a;!1a;!1a}*");
        due("apart(0, 2, 0)", y.apart(0, 2, 0), 5);
    }

    private static void watch() {
        of("14 watch");
        LetterTurns x = new LetterTurns();
        due("watch(0)", x.watch(0), UNKNOWN);
        book(x, "{!1a;!1b+!1a;?2c}*;!1a");
        due("nothing", watch(x, 0, ""), 0);
        due("an end", watch(x, 0, "!1a"), 101);
        due("no end", watch(x, 0, "!1a!1b"), 2);
        due("by the other way", watch(x, 0, "!1a?2c!1a!1b!1a"), 105);
        due("the second one wrong", watch(x, 0, "!1a!1a!1b"), 1);
        due("the first one wrong", watch(x, 0, "?1a!1a"), 0);
        due("behind the last", watch(x, 0, "!1a!1b!1c"), 2);
        due("the page stays", x.count(2), 9);
        due("half an act", watch(x, 0, "!1a!1"), STATE);
        due("a sign between", watch(x, 0, "!1a;!1b"), STATE);
        due("another sign", watch(x, 0, "!1e"), STATE);
        due("another digit", watch(x, 0, "!3a"), STATE);
        due("UNKNOWN ahead of STATE", watch(x, 1, "!1e"), UNKNOWN);
        due("twenty", watch(x, 0, "!1a!1b".repeat(10)), 20);
        x.blank();
        book(x, "{!1a}*");
        due("nothing, at an end", watch(x, 1, ""), 100);
        due("twenty, at an end", watch(x, 1, "!1a".repeat(20)), 120);
        due("watch(-1)", x.watch(-1), UNKNOWN);
    }

    // ---- talks

    private static void seat() {
        of("15 seat");
        LetterTurns x = new LetterTurns();
        book(x, "!1a");
        book(x, "?0a");
        book(x, "!0a;?1b");
        due("seat(0, 0)", x.seat(0, 0), NONE);
        due("go(0)", x.go(0), 1);
        due("a refusal changes nothing", x.seat(0, 1), STATE);
        due("waiting for itself", x.seat(1, 2), STATE);
        due("writing to itself", x.seat(0, 2), STATE);
        due("seat(3, 0)", x.seat(3, 0), UNKNOWN);
        due("seat(-1, 0)", x.seat(-1, 0), UNKNOWN);
        due("seat(0, 3)", x.seat(0, 3), UNKNOWN);
        due("seat(0, -2)", x.seat(0, -2), UNKNOWN);
        due("count(3)", x.count(3), 1);
        due("seat(2, 0)", x.seat(2, 0), NONE);
        due("the talk begins anew", x.count(3), 0);
        due("at(0)", x.at(0), 0);
        due("steps of two offices with one book", x.steps(), 2);
        due("seat(2, 2)", x.seat(2, 2), 0);
        due("seat(2, -1)", x.seat(2, NONE), 2);
        due("seat(2, -1)", x.seat(2, NONE), NONE);
        due("the same again", x.seat(0, 0), 0);
    }

    private static void post() {
        of("16 post");
        LetterTurns x = talk("!1a;!1b");
        due("go(0)", x.go(0), 1);
        due("post(0, 1, 5)", x.post(0, 1, 5), OUTSIDE);
        due("post(0, 1, -1)", x.post(0, 1, -1), OUTSIDE);
        due("post(1, 1, 0)", x.post(1, 1, 0), UNKNOWN);
        due("post(3, 1, 9)", x.post(3, 1, 9), UNKNOWN);
        due("post(1, -1, 0)", x.post(1, -1, 0), UNKNOWN);
        due("refusals change nothing", x.count(3), 1);
        due("post(2, 1, 3)", x.post(2, 1, 3), 0);
        due("the talk begins anew", x.count(4), 0);
        for (int kind = 0; kind < 5; kind++) {
            due("post(0, 1, " + kind + ")", x.post(0, 1, kind), Math.max(0, kind - 1));
        }
        due("another one", x.post(1, 0, 0), 0);
        due("post(2, 1, 0)", x.post(2, 1, 0), 3);
    }

    private static void as() {
        of("17 as");
        LetterTurns x = new LetterTurns();
        int[][] is = {{0}, {0, 1}, {0, 2}, {0, 3}, {0, 3, 4}};
        for (int kind = 0; kind < 5; kind++) {
            x.post(2, 1, kind);
            for (int wanted = 0; wanted < 5; wanted++) {
                boolean such = false;
                for (int k : is[kind]) {
                    such |= k == wanted;
                }
                due(kind + " as " + wanted, x.as(2, 1, wanted), such ? 21 : NONE);
            }
        }
        due("as(0, 2, 0)", x.as(0, 2, 0), 2);
        due("as(0, 2, 1)", x.as(0, 2, 1), NONE);
        due("as(0, 0, 0)", x.as(0, 0, 0), UNKNOWN);
        due("as(0, 3, 9)", x.as(0, 3, 9), UNKNOWN);
        due("as(0, 1, 5)", x.as(0, 1, 5), OUTSIDE);
        due("as(0, 1, -1)", x.as(0, 1, -1), OUTSIDE);
    }

    private static void room() {
        of("18 room");
        LetterTurns x = talk("{!1a}*");
        due("run", x.run(1, 200), 2);
        due("room(0)", x.room(0), OUTSIDE);
        due("room(4)", x.room(4), OUTSIDE);
        due("room(-1)", x.room(-1), OUTSIDE);
        due("refusals change nothing", x.count(4), 2);
        due("room(3)", x.room(3), 2);
        due("the talk begins anew", x.count(3), 0);
        due("run", x.run(1, 200), 3);
        due("room(1)", x.room(1), 3);
        due("run", x.run(1, 200), 1);
        due("room(1)", x.room(1), 1);
        due("room(3)", x.room(3), 1);
        x.post(0, 1, 2);
        due("a short one", x.run(1, 200), 1);
    }

    private static void begin() {
        of("19 begin");
        LetterTurns x = talk("{!1a}*", "?0a;{?0a}*");
        due("begin()", x.begin(), 0);
        x.go(0);
        x.go(0);
        due("begin()", x.begin(), 2);
        due("at(0)", x.at(0), 0);
        due("lies(0, 1, 0)", x.lies(0, 1, 0), NONE);
        due("count(3)", x.count(3), 0);
        due("begin()", x.begin(), 0);
        int did = x.run(5, 200);
        due("run and begin", x.begin(), did);
    }

    private static void steps() {
        of("20 steps");
        LetterTurns x = talk("{!1a+!2b+!1c}", "{?0a+?0c+?2a}", "{?0b+!1a}");
        due("steps()", x.steps(), 4);
        due("step(0)", x.step(0), 1);
        due("step(1)", x.step(1), 2);
        due("step(2)", x.step(2), 3);
        due("step(3)", x.step(3), 202);
        x.go(3);
        due("steps()", x.steps(), 4);
        due("step(3)", x.step(3), 103);
        x.go(0);
        due("steps()", x.steps(), 2);
        due("step(0)", x.step(0), 101);
        due("step(1)", x.step(1), 103);
        x.go(1);
        due("steps()", x.steps(), 0);
        LetterTurns y = talk("!1a;!1b;!1c", "?0b;?0a");
        y.go(0);
        due("the second one is not first", y.steps(), 1);
        y.go(0);
        due("no room, and not first", y.steps(), 0);
    }

    private static void stepsOfKinds() {
        of("20 steps of kinds");
        LetterTurns x = talk("!1a;!1b;!1c", "?0b;?0a");
        x.post(0, 1, 1);
        x.go(0);
        x.go(0);
        due("out of a heap", x.step(0), 101);
        x.go(0);
        due("steps()", x.steps(), 2);
        x.post(0, 1, 2);
        x.go(0);
        due("short", x.steps(), 0);
        x.post(0, 1, 3);
        due("lost", x.steps(), 2);
        due("step(1)", x.step(1), 1001);
        x.go(1);
        due("nothing lies", x.count(4), 0);
        due("at(0)", x.at(0), 1);
        x.go(0);
        due("kept", x.lies(0, 1, 0), 1);
        due("steps()", x.steps(), 3);
        due("a wait of a lost one", x.step(2), 101);
        x.room(1);
        x.go(0);
        due("without room nothing is lost", x.steps(), 0);
        x.post(0, 1, 4);
        due("a twice never loses", x.steps(), 1);
        x.seat(1, book(x, "?0a;?0a"));
        x.go(0);
        due("twice", x.steps(), 2);
        due("step(0)", x.step(0), 101);
        due("step(1)", x.step(1), 1101);
        x.go(1);
        due("it stays", x.lies(0, 1, 0), 0);
        due("at(1)", x.at(1), 1);
        due("go(0)", x.go(0), 102);
        due("it is gone", x.lies(0, 1, 0), NONE);
    }

    private static void stepsOfMany() {
        of("20 steps of many acts");
        String to12 = "{!1a+!1b+!1c+!1d+!2a+!2b+!2c+!2d+!1a+!1b+!1c+!1d+!2a+!2b}*";
        LetterTurns x = talk(to12, to12.replace('1', '0'), to12.replace('1', '0').replace('2', '1'));
        for (int from = 0; from < 3; from++) {
            x.post(from, (from + 1) % 3, 3);
            x.post(from, (from + 2) % 3, 3);
        }
        due("steps()", x.steps(), 84);
        due("step(83)", x.step(83), 1214);
        due("go(83)", x.go(83), 1214);
        due("met()", x.met(), SPENT);
        LetterTurns y = talk(CHAIN, "{?0a}*");
        due("15 acts", y.run(9, 200), 30);
        due("at(0)", y.at(0), 15);
        due("now(4)", y.now(4), 1);
        LetterTurns z = talk(CHAIN, CHAIN.substring(0, 56).replace("!1", "?0") + "?0b");
        due("the 15th is wrong", z.find(2, 0), 1);
        due("find(2, 1)", z.find(2, 1), 29);
        mends(z, 0, 15, 1);
    }

    private static void stepAndGo() {
        of("21 step, 22 go");
        LetterTurns x = new LetterTurns();
        due("step(0)", x.step(0), NONE);
        due("go(0)", x.go(0), STATE);
        x = talk("{!1a+!1b}*", "{?0a+?0b}*");
        due("step(-1)", x.step(-1), NONE);
        due("step(2)", x.step(2), NONE);
        due("step(MIN)", x.step(MIN), NONE);
        due("go(-1)", x.go(-1), STATE);
        due("go(2)", x.go(2), STATE);
        due("go(MAX)", x.go(MAX), STATE);
        due("count(3)", x.count(3), 0);
        due("step(1)", x.step(1), 2);
        due("count(3)", x.count(3), 0);
        due("go(1)", x.go(1), 2);
        due("go(2)", x.go(2), 102);
        due("at(1)", x.at(1), 2);
        due("count(3)", x.count(3), 2);
    }

    private static void run() {
        of("23 run");
        LetterTurns x = talk("{!1a+!1b}*", "{?0a+?0b}*", "{!0a}*");
        due("run(-1, 5)", x.run(-1, 5), OUTSIDE);
        due("run(0, 0)", x.run(0, 0), OUTSIDE);
        due("run(0, 201)", x.run(0, 201), OUTSIDE);
        due("run(0, -1)", x.run(0, -1), OUTSIDE);
        due("count(3)", x.count(3), 0);
        LetterTurns y = talk("{!1a+!1b}*", "{?0a+?0b}*", "{!0a}*");
        long seed = 2147483647;
        for (int i = 0; i < 200; i++) {
            seed = (seed * 1103515245 + 12345) % 2147483648L;
            y.go((int) (seed / 65536 % y.steps()));
        }
        due("run(2147483647, 200)", x.run(2147483647, 200), 200);
        due("digest()", x.digest(), y.digest());
        due("count(3)", x.count(3), 200);
        due("run(0, 1)", x.run(0, 1), 1);
        due("a run goes on", x.count(3), 201);
        LetterTurns z = talk("!1a;!1a;!1a");
        due("until there are none", z.run(0, 200), 2);
        due("none at all", z.run(0, 200), 0);
    }

    private static void at() {
        of("24 at");
        LetterTurns x = talk("", "!2a;!2b");
        due("at(0)", x.at(0), NONE);
        due("at(1)", x.at(1), 0);
        x.go(0);
        due("at(1)", x.at(1), 1);
        due("at(3)", x.at(3), UNKNOWN);
        due("at(-1)", x.at(-1), UNKNOWN);
        x.seat(1, NONE);
        due("at(1)", x.at(1), NONE);
    }

    private static void lies() {
        of("25 lies");
        LetterTurns x = talk("!1d;!1a;!1c", "?0c;?0a");
        x.room(3);
        x.run(0, 3);
        due("first", x.lies(0, 1, 0), 3);
        due("second", x.lies(0, 1, 1), 0);
        due("third", x.lies(0, 1, 2), 2);
        due("fourth", x.lies(0, 1, 3), NONE);
        due("-1", x.lies(0, 1, -1), NONE);
        due("MAX", x.lies(0, 1, MAX), NONE);
        due("the way back", x.lies(1, 0, 0), NONE);
        due("lies(1, 1, 0)", x.lies(1, 1, 0), UNKNOWN);
        due("lies(3, 1, 0)", x.lies(3, 1, 0), UNKNOWN);
        due("lies(0, -1, 0)", x.lies(0, -1, 0), UNKNOWN);
        x.post(0, 1, 1);
        x.go(0);
        x.go(0);
        x.go(0);
        due("by letters", x.lies(0, 1, 0), 0);
        due("by letters", x.lies(0, 1, 1), 2);
        due("by letters", x.lies(0, 1, 2), 3);
        due("by letters", x.lies(0, 1, 3), NONE);
        due("go(0)", x.go(0), 101);
        due("by letters", x.lies(0, 1, 1), 3);
        due("by letters", x.lies(0, 1, 2), NONE);
    }

    private static void now() {
        of("26 now");
        LetterTurns x = talk("!1a", "?0b");
        nows(x, 0, 0, 0, 1, 0);
        x.go(0);
        nows(x, 1, 0, 1, 1, 0);
        due("now(5)", x.now(5), OUTSIDE);
        due("now(-1)", x.now(-1), OUTSIDE);
        x = talk("!1a", "{?0a}*");
        nows(x, 0, 0, 0, 0, 0);
        x.run(0, 2);
        nows(x, 0, 0, 0, 0, 1);
        x = talk("!1a", "");
        nows(x, 0, 0, 0, 1, 0);
        x.go(0);
        nows(x, 0, 1, 0, 1, 0);
        x = talk("{!1a}*", "{?0a+!0b}*");
        nows(x, 0, 0, 0, 0, 1);
        x = talk("?1a", "?0a");
        nows(x, 1, 0, 0, 1, 0);
        x = spent();
        nows(x, 0, 0, 0, SPENT, 1);
    }

    // ---- all states

    private static void met() {
        of("27 met");
        due("one step", talk("!1a").met(), 2);
        due("there and back", talk("!1a;?1b", "?0a;!0b").met(), 5);
        due("two at once", talk("!1a", "!0a").met(), 4);
        due("two rows of like letters in a post", talk("{!1a+!1b}*").met(), 1 + 2 + 4);
        LetterTurns x = talk("{!1a+!1b}*");
        x.post(0, 1, 1);
        // places tell the last letter: a, b, aa, ab or ba by place 1, ab or ba by place 2, bb
        due("in a heap", x.met(), 1 + 2 + 4);
        x = talk("{!1a;!1b+!1b;!1a}");
        due("in order", x.met(), 5);
        x = talk("{!1a+!1b};{!1a+!1b};!1c");
        x.room(3);
        due("in order", x.met(), 1 + 2 + 4 + 4);
        x.post(0, 1, 1);
        due("in a heap", x.met(), 1 + 2 + 4 + 3);
        due("spent", spent().met(), SPENT);
        x = spent();
        x.seat(1, NONE);
        x.seat(2, NONE);
        x.room(1);
        // of each post nothing or one of its letters, and the place tells which came last
        due("no more spent", x.met(), 1 + 4 + 2 + 8 + 8);
    }

    /** Offices that nobody reads do not hinder one another: their numbers of states are multiplied. */
    private static void spentLimit() {
        of("27 the limit of 2000");
        String of10 = "{!1a+!1b+!1c+!1d+!2a+!2b+!2c+!2d+!1a}";
        String of5 = "{!0a+!0b+!0c+!2d}";
        String of40 = "{!0a+!0b+!0c};{!0a+!0b+!0c+!0d};{!1a+!1b}";
        due("10 alone", talk(of10).met(), 10);
        due("5 alone", talk("", of5).met(), 5);
        due("40 alone", talk("", "", of40).met(), 1 + 3 + 12 + 24);
        LetterTurns x = talk(of10, of5, of40);
        due("2000", x.met(), 2000);
        due("its orphans", x.find(1, 0), 9 * 4 * 24);
        String of3 = "{!1a+!1b}";
        String of23 = "{!0a+!0b};{!0a+!0b};{!2a+!2b+!2c+!2d}";
        String of29 = "{!0a+!0b+!0c+!0d};{!0a+!0b};{!1a+!1b}";
        due("23 alone", talk("", of23).met(), 1 + 2 + 4 + 16);
        due("29 alone", talk("", "", of29).met(), 1 + 4 + 8 + 16);
        due("23 times 29", talk("", of23, of29).met(), 667);
        x = talk(of3, of23, of29);
        due("2001", x.met(), SPENT);
        due("its orphans", x.find(1, 0), SPENT);
        due("its mend", x.mend(0), SPENT);
    }

    private static void find() {
        of("28 find");
        LetterTurns x = talk("!1a;?1b", "?0a;{!0b+!0c}");
        due("find(0, 0)", x.find(0, 0), 1);
        due("find(0, 1)", x.find(0, 1), 3);
        due("find(0, 10)", x.find(0, 10), 1);
        due("find(0, 11)", x.find(0, 11), 101);
        due("find(0, 12)", x.find(0, 12), 103);
        due("find(0, 13)", x.find(0, 13), NONE);
        due("find(0, 99)", x.find(0, 99), NONE);
        due("find(1, 0)", x.find(1, 0), 0);
        due("find(1, 1)", x.find(1, 1), NONE);
        due("find(1, 10)", x.find(1, 10), NONE);
        due("find(2, 0)", x.find(2, 0), 1);
        due("find(3, 0)", x.find(3, 0), 1);
        due("find(4, 0)", x.find(4, 0), 1);
        due("find(4, 1)", x.find(4, 1), 4);
        due("find(4, 13)", x.find(4, 13), 2);
        due("find(5, 0)", x.find(5, 0), OUTSIDE);
        due("find(-1, 0)", x.find(-1, 0), OUTSIDE);
        due("find(0, 2)", x.find(0, 2), OUTSIDE);
        due("find(0, 9)", x.find(0, 9), OUTSIDE);
        due("find(0, 100)", x.find(0, 100), OUTSIDE);
        due("find(0, -1)", x.find(0, -1), OUTSIDE);
        x = talk("{!1a}*", "{?0a}*");
        due("the beginning", x.find(4, 1), 0);
        due("no step", x.find(4, 10), NONE);
        due("ends of loops", x.find(4, 0), 2);
        x = talk("{!1a+!1b}", "");
        due("orphans", x.find(1, 0), 2);
        due("the first", x.find(1, 10), 1);
        due("none is stuck", x.find(0, 0), 0);
        x = talk("!1a", "?0a");
        x.post(0, 1, 3);
        due("a lost letter", x.find(0, 10), 1001);
        x.post(0, 1, 4);
        due("a letter that stays", x.find(1, 0), 1);
        due("its way", x.find(1, 11), 1101);
        x = spent();
        due("spent", x.find(4, 0), SPENT);
        due("spent", x.find(4, 1), SPENT);
        due("spent", x.find(4, 10), SPENT);
        due("OUTSIDE ahead of it", x.find(4, 2), OUTSIDE);
    }

    private static void findWrong() {
        of("28 wrong");
        due("not at an end", talk("!1b", "{?0a}*").find(2, 0), 0);
        due("a send among them", talk("!1b", "{?0a+!2a}").find(2, 0), 0);
        due("a wait", talk("!1b", "?0a").find(2, 0), 1);
        due("two waits", talk("{!1b+!1c}", "{?0a+?0b}").find(2, 0), 1);
        due("one of two offices", talk("!1b", "{?0a+?2a}", "!1a").find(2, 0), 2);
        due("an office for which nobody waits", talk("!1b", "?2a", "").find(2, 0), 0);
        due("behind the first", talk("!1a;!1b", "?0a;?0b").find(2, 0), 0);
        LetterTurns x = talk("!1b;!1a", "?0a;?0b");
        due("the first is wrong", x.find(2, 0), 2);
        x.post(0, 1, 1);
        due("in a heap until the other comes", x.find(2, 0), 1);
        due("and none is stuck", x.find(0, 0), 0);
    }

    private static void findForever() {
        of("28 forever");
        due("round and round", talk("!1a;{!1a}*;!1b", "{?0a}*").find(3, 0), 1 + 5 + 4);
        LetterTurns x = talk("{!1a;{!1b}*;?1c+!1d}", "{?0a;{?0b}*;?0c+?0d}");
        due("done", x.find(4, 0), 1);
        due("steps to where no end can be reached", x.find(3, 1), 1);
        due("by the first act", x.find(3, 10), 1);
        due("not at the beginning", x.now(3), 0);
        x.go(0);
        due("but behind it", x.now(3), 1);
        x.begin();
        x.go(1);
        due("and not behind the other", x.now(3), 0);
        x = talk("?1a", "");
        due("at once", x.find(3, 1), 0);
        due("now(3)", x.now(3), 1);
    }

    private static void most() {
        of("29 most");
        LetterTurns x = talk("{!1a}*;!2b", "{?0a}*");
        due("most(0, 1)", x.most(0, 1), 2);
        due("most(0, 2)", x.most(0, 2), 1);
        due("most(1, 0)", x.most(1, 0), 0);
        due("most(1, 1)", x.most(1, 1), UNKNOWN);
        due("most(0, 3)", x.most(0, 3), UNKNOWN);
        due("most(-1, 0)", x.most(-1, 0), UNKNOWN);
        x.room(3);
        due("most(0, 1)", x.most(0, 1), 3);
        x.post(0, 1, 1);
        due("in a heap", x.most(0, 1), 3);
        x.post(0, 1, 2);
        due("in a short one", x.most(0, 1), 1);
        due("ping and pong", talk("{!1a;?1a}*", "{?0a;!0a}*").most(0, 1), 1);
        due("spent", spent().most(0, 1), SPENT);
        due("UNKNOWN ahead of it", spent().most(1, 1), UNKNOWN);
    }

    private static void mend() {
        of("30 mend");
        mends(talk("!1a", "?0b"), 0, 1, 1);
        mends(talk("!1b;?1c", "?0b;!0d"), 0, 2, 3);
        mends(talk("!1a;!1b", "?0b;?0b"), 0, 1, 1);
        mends(talk("!1a;!1b", "?0c;?0d"), NONE, NONE, NONE);
        mends(talk("!1a", "?0a"), -3, -3, -3);
        mends(talk("", "!2a"), NONE, NONE, NONE);
        mends(talk("{!1a}*;!1b", "{?0a}*;?0c"), 0, 2, 2);
        mends(talk("{!1c}*;!1c", "{?0a}*;?0b"), NONE, NONE, NONE);
        mends(talk("", "!2d", "?1c"), 1, 1, 2);
        // the act of office 0 alone cannot: it sends two of a kind
        mends(talk("{!1a}*", "{?0b}*"), 0, 1, 1);
        mends(talk("!1a;{!1a}*", "?0a;{?0b}*"), 0, 2, 1);
        mends(spent(), SPENT, SPENT, SPENT);
        LetterTurns x = talk("!1a", "{?0b+?0c}");
        mends(x, 0, 1, 1);
        due("nothing has changed", x.find(0, 0), 1);
        due("act(0, 1)", x.act(0, 1), 10);
        due("mend(3)", x.mend(3), OUTSIDE);
        due("mend(-1)", x.mend(-1), OUTSIDE);
        due("count(5)", x.count(5), 3);
        foreverMends();
    }

    /** No state is stuck, orphan or wrong, but from all no end can be reached. */
    private static void foreverMends() {
        LetterTurns x = talk("{!1a}*;?1b", "?0a;!0c;{?0a}*");
        due("none is stuck", x.find(0, 0), 0);
        due("none is an orphan", x.find(1, 0), 0);
        due("none is wrong", x.find(2, 0), 0);
        due("all are forever", x.find(3, 0), x.met());
        mends(x, 0, 2, 2);
        LetterTurns y = talk("{?1b}*;?1c", "{!0b}*");
        due("none is stuck", y.find(0, 0), 0);
        due("all are forever", y.find(3, 0), y.met());
        mends(y, NONE, NONE, NONE);
    }

    private static void mendOnlyThere() {
        of("30 a mend of one office's book alone");
        LetterTurns x = new LetterTurns();
        book(x, "!2a");
        book(x, "?0a;?1b");
        x.seat(0, 0);
        x.seat(1, 0);
        x.seat(2, 1);
        due("mend(0)", x.mend(0), 1);
        due("mend(1)", x.mend(1), 1);
        due("mend(2)", x.mend(2), 1);
    }

    private static void mendLimits() {
        of("30 six times");
        LetterTurns x = talk("!1a", "?0a");
        for (int i = 1; i <= 6; i++) {
            due("mend(0)", x.mend(0), -3);
            due("mend(7)", x.mend(7), OUTSIDE);
            due("count(5)", x.count(5), i);
        }
        due("a seventh", x.mend(0), STATE);
        due("OUTSIDE ahead of it", x.mend(9), OUTSIDE);
        due("count(5)", x.count(5), 6);
    }

    // ---- what is told

    private static void count() {
        of("31 count");
        LetterTurns x = talk("!1a;!1b;!2c", "!0a", "?0c");
        one(x, "01a");
        write(x, "abcd");
        due("count(0)", x.count(0), 3);
        due("count(1)", x.count(1), 1);
        due("count(2)", x.count(2), 4);
        x.run(3, 200);
        due("count(3)", x.count(3), 5);
        due("count(4)", x.count(4), 3);
        due("count(5)", x.count(5), 0);
        x.mend(0);
        due("count(5)", x.count(5), 1);
        due("count(6)", x.count(6), OUTSIDE);
        due("count(-1)", x.count(-1), OUTSIDE);
        x.post(0, 1, 1);
        due("count(4)", x.count(4), 0);
        x.run(3, 200);
        due("in a heap, too", x.count(4), 3);
    }

    private static long sum(long... numbers) {
        long h = 307;
        for (long n : numbers) {
            h = 31 * h + n;
        }
        return h;
    }

    private static void digest() {
        of("32 digest");
        LetterTurns x = new LetterTurns();
        due("of a new object", x.digest(), sum(-1, -1, -1, -1, -1, -1, 0, 0, 0, 0, 0, 0, 2, 0, 1, 0, 0, 0, 0, 0, 0));
        book(x, "{!1d}*;?2a");
        one(x, "01a");
        x.seat(0, 0);
        x.post(0, 1, 1);
        x.post(2, 1, 4);
        x.room(3);
        x.run(1, 2);
        x.mend(0);
        write(x, "~;");
        due("of a talk", x.digest(), sum(2, 0, 2, 1, 13, 120, 6, 6, 1,
                0, 1, -1, -1, -1, -1,
                1, 3, 3, 0, 0, 0, 0, 4,
                3, 1, 4, '~', ';',
                1, 1, 2, 2, 2, 1));
        due("it changes nothing", x.digest(), x.digest());
        LetterTurns y = spent();
        long before = y.digest();
        y.run(4, 1);
        due("spent states are told", before == y.digest() ? 1 : 0, 0);
    }
}
