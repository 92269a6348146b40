import java.util.function.IntSupplier;

/** What all tests of the promises need: answers held against what is due, texts written, talks made. */
class Desk {
    static final int NONE = -1, SPENT = -2, UNKNOWN = -101, OUTSIDE = -102, STATE = -103, FULL = -104;
    static final int MIN = Integer.MIN_VALUE, MAX = Integer.MAX_VALUE;

    private static int wrong;
    private static int looked;
    private static String about = "";

    static void of(String what) {
        about = what;
    }

    static void due(String call, long got, long want) {
        looked++;
        if (got != want) {
            wrong++;
            System.out.println(about + ": " + call + " answered " + got + ", due is " + want);
        }
    }

    /** Ends the program: with 1, if an answer was not as due. */
    static void close(String test) {
        System.out.println(test + ": " + (looked - wrong) + " answers as due, " + wrong + " not");
        if (wrong != 0) {
            System.exit(1);
        }
    }

    /** A call that is refused, or that only tells something: its answer, and that nothing has changed behind it. */
    static void idle(LetterTurns x, String call, IntSupplier called, int want) {
        long before = x.digest();
        due(call, called.getAsInt(), want);
        due("digest() behind " + call, x.digest(), before);
    }

    static long word(String text) {
        long w = 0;
        for (int i = text.length() - 1; i >= 0; i--) {
            w = w << 8 | text.charAt(i);
        }
        return w;
    }

    static int write(LetterTurns x, String text) {
        int size = x.count(2);
        for (int i = 0; i < text.length(); i += 8) {
            size = x.letters(word(text.substring(i, Math.min(i + 8, text.length()))));
        }
        return size;
    }

    static int book(LetterTurns x, String text) {
        write(x, text);
        int number = x.book();
        x.blank();
        return number;
    }

    static int one(LetterTurns x, String text) {
        write(x, text);
        int number = x.one();
        x.blank();
        return number;
    }

    static int fault(String text, int sort) {
        LetterTurns x = new LetterTurns();
        write(x, text);
        return x.fault(sort);
    }

    /** An object that has these books, and nothing else. */
    static LetterTurns shelf(String... texts) {
        LetterTurns x = new LetterTurns();
        for (int number = 0; number < texts.length; number++) {
            due("book() of " + texts[number], book(x, texts[number]), number);
        }
        return x;
    }

    /** A talk of these books; an empty text is none. */
    static LetterTurns talk(String... texts) {
        LetterTurns x = new LetterTurns();
        for (int office = 0; office < texts.length; office++) {
            if (!texts[office].isEmpty()) {
                due("seat(" + office + ") of " + texts[office], x.seat(office, book(x, texts[office])), NONE);
            }
        }
        return x;
    }

    static int watch(LetterTurns x, int book, String row) {
        x.blank();
        write(x, row);
        return x.watch(book);
    }

    static void mends(LetterTurns x, int office, int act, int letter) {
        due("mend(0)", x.mend(0), office);
        due("mend(1)", x.mend(1), act);
        due("mend(2)", x.mend(2), letter);
    }

    static void nows(LetterTurns x, int... want) {
        for (int what = 0; what < want.length; what++) {
            due("now(" + what + ")", x.now(what), want[what]);
        }
    }

    /** A talk that has more than 2000 states, and is DONE at its beginning. */
    static LetterTurns spent() {
        LetterTurns x = talk("{!1a+!1b+!1c+!1d+!2a+!2b}*", "{!0a+!0b+!0c+!0d+!2a+!2b}*", "{!0a+!0b+!0c+!0d}*");
        x.room(3);
        return x;
    }

    /** One act n times, one behind the other. */
    static String row(String act, int n) {
        return act + (";" + act).repeat(n - 1);
    }
}
