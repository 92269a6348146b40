import java.util.ArrayList;
import java.util.List;
import java.util.Random;

/** Runs of calls by seeds, on the class and on the slow second telling of the document. */
public final class OracleTest {
    private final Random dice;
    private final LetterTurns x = new LetterTurns();
    private final Oracle y = new Oracle();
    private final List<String> calls = new ArrayList<>();
    private final boolean small;
    private int wrong;

    private OracleTest(long seed) {
        dice = new Random(seed);
        small = dice.nextInt(4) != 0;
    }

    public static void main(String[] args) {
        int runs = args.length > 0 ? Integer.parseInt(args[0]) : 400;
        int from = args.length > 1 ? Integer.parseInt(args[1]) : 1;
        int wrong = 0;
        for (int seed = from; seed < from + runs && wrong < 5; seed++) {
            OracleTest t = new OracleTest(seed);
            t.play();
            if (t.wrong > 0) {
                System.out.println("seed " + seed + ": " + String.join("\n  ", t.calls));
                wrong++;
            }
        }
        System.out.println(wrong == 0 ? "OracleTest: " + runs + " runs agree" : "OracleTest: runs differ");
        if (wrong != 0) {
            System.exit(1);
        }
    }

    private void due(String call, long got, long want) {
        calls.add(call + " = " + got);
        if (got != want) {
            calls.add("^ due is " + want);
            wrong++;
        }
    }

    private int any(int below) {
        return dice.nextInt(below);
    }

    /** A number from 0 on, now and then one that is none. */
    private int some(int below) {
        int r = any(40);
        if (r == 0) {
            return -1 - any(3);
        }
        if (r == 1) {
            return below + any(3);
        }
        return r == 2 ? (any(2) == 0 ? Integer.MIN_VALUE : Integer.MAX_VALUE) : any(Math.max(1, below));
    }

    // ---- texts

    private String anAct(boolean one, int office) {
        char letter = (char) ('a' + any(small ? 2 : 4));
        if (one) {
            int f = any(3);
            return "" + f + (f + 1 + any(2)) % 3 + letter;
        }
        int other = office < 0 ? any(3) : any(10) == 0 ? any(3) : (office + 1 + (any(3) == 0 ? 1 : 0)) % 3;
        return (any(2) == 0 ? "!" : "?") + other + letter;
    }

    private String row(boolean one, int office, int depth) {
        StringBuilder s = new StringBuilder();
        int n = 1 + any(3);
        for (int i = 0; i < n; i++) {
            s.append(i > 0 ? ";" : "");
            if (depth == 0 || any(3) != 0) {
                s.append(anAct(one, office));
            } else {
                int rows = 1 + any(3);
                s.append("{");
                for (int r = 0; r < rows; r++) {
                    s.append(r > 0 ? "+" : "").append(row(one, office, depth - 1));
                }
                s.append(any(2) == 0 ? "}*" : "}");
            }
        }
        return s.toString();
    }

    private String text(boolean one, int office) {
        String t = row(one, office, any(4));
        for (int i = 0; i < 20 && t.length() > 60; i++) {
            t = row(one, office, any(3));
        }
        if (any(12) == 0 && !t.isEmpty()) {
            int i = any(t.length());
            t = t.substring(0, i) + "{}*+;!?012abcdex".charAt(any(16)) + t.substring(any(2) == 0 ? i : i + 1);
        }
        return t;
    }

    private void write(String t) {
        for (int i = 0; i < t.length(); i += 8) {
            long w = 0;
            for (int k = Math.min(i + 8, t.length()) - 1; k >= i; k--) {
                w = w << 8 | t.charAt(k);
            }
            due("letters(" + w + "L)", x.letters(w), y.letters(w));
        }
        if (any(3) == 0) {
            due("fault(0)", x.fault(0), y.fault(0));
            due("fault(1)", x.fault(1), y.fault(1));
        }
    }

    private void clean() {
        if (x.count(2) > 0 && any(20) != 0) {
            due("blank()", x.blank(), y.blank());
        }
    }

    private void newBook(int office) {
        clean();
        write(text(false, office));
        due("book()", x.book(), y.book());
        if (any(4) == 0) {
            due("one()", x.one(), y.one());
        }
    }

    private void newOne() {
        clean();
        write(text(true, 0));
        due("one()", x.one(), y.one());
        int one = some(x.count(1));
        for (int o = 0; o < 3; o++) {
            int office = any(10) == 0 ? some(3) : o;
            due("own(" + one + ", " + office + ")", x.own(one, office), y.own(one, office));
            due("seat(" + o + ", " + (x.count(0) - 1) + ")", x.seat(o, x.count(0) - 1), y.seat(o, y.count(0) - 1));
        }
    }

    // ---- a run

    private void play() {
        int way = any(4);
        if (way == 0) {
            newOne();
        } else {
            int n = 1 + any(4);
            for (int o = 0; o < n; o++) {
                newBook(o % 3);
                due("seat", x.seat(o % 3, x.count(0) - 1), y.seat(o % 3, y.count(0) - 1));
            }
            if (way == 1) {
                mirrored();
            } else if (way == 2) {
                alike();
            }
        }
        int n = 20 + any(100);
        for (int i = 0; i < n && wrong == 0 && calls.size() < 500; i++) {
            if (any(3) == 0) {
                bookCall();
            } else {
                talkCall();
            }
        }
        due("digest()", x.digest(), y.digest());
    }

    /** Two offices that answer one another, but for a letter now and then: what can be mended. */
    private void mirrored() {
        clean();
        String t = text(false, 0).replace('0', '1').replace('2', '1');
        String u = t.replace('!', '%').replace('?', '!').replace('%', '?').replace('1', '0');
        int i = any(u.length());
        if (u.charAt(i) >= 'a' && u.charAt(i) <= 'd') {
            u = u.substring(0, i) + (char) ('a' + any(4)) + u.substring(i + 1);
        }
        write(t);
        int a = x.book();
        due("book()", a, y.book());
        clean();
        write(u);
        int b = x.book();
        due("book()", b, y.book());
        due("seat(0, " + a + ")", x.seat(0, a), y.seat(0, a));
        due("seat(1, " + b + ")", x.seat(1, b), y.seat(1, b));
        due("seat(2, -1)", x.seat(2, -1), y.seat(2, -1));
        for (int what = 0; what < 3; what++) {
            due("mend(" + what + ")", x.mend(what), y.mend(what));
        }
    }

    /** Two books that differ in a letter or in how they are written: rows that tell them apart are longer. */
    private void alike() {
        clean();
        String t = text(false, 0);
        String u = t;
        for (int i = any(3); i >= 0; i--) {
            int k = any(u.length());
            char c = u.charAt(k);
            char d = c >= 'a' && c <= 'd' ? (char) ('a' + any(2)) : c == '+' ? ';' : c == ';' && u.indexOf('{') >= 0 ? '+' : c;
            u = u.substring(0, k) + d + u.substring(k + 1);
        }
        write(t);
        int a = x.book();
        due("book()", a, y.book());
        clean();
        write(u);
        int b = x.book();
        due("book()", b, y.book());
        due("same(" + a + ", " + b + ")", x.same(a, b), y.same(a, b));
        for (int what = 0; what < 18; what += what == 1 ? 9 : 1) {
            due("apart(" + a + ", " + b + ", " + what + ")", x.apart(a, b, what), y.apart(a, b, what));
        }
    }

    private void bookCall() {
        int b = some(x.count(0));
        int c = some(x.count(0));
        int v = some(18);
        int w = any(3) == 0 ? some(100) : any(2) == 0 ? any(2) : 10 + any(6);
        switch (any(14)) {
            case 0: newBook(any(3)); break;
            case 1: if (any(4) == 0) { newOne(); } break;
            case 2: due("twin(" + b + ")", any(2) == 0 ? x.twin(b) : skip(), lastTwin(b)); break;
            case 3: due("about(" + b + ", " + v + ")", x.about(b, v), y.about(b, v)); break;
            case 4: due("about(" + b + ", 2)", x.about(b, 2), y.about(b, 2)); break;
            case 5: due("act(" + b + ", " + v + ")", x.act(b, v), y.act(b, v)); break;
            case 6: due("follow(" + b + ", " + v + ")", x.follow(b, v), y.follow(b, v)); break;
            case 7: due("same(" + b + ", " + c + ")", x.same(b, c), y.same(b, c)); break;
            case 8: case 9: due("apart(" + b + ", " + c + ", " + w + ")", x.apart(b, c, w), y.apart(b, c, w)); break;
            case 10: case 11: watched(b); break;
            case 12: due("digest()", x.digest(), y.digest()); break;
            default: due("count(" + v % 7 + ")", x.count(v % 7), y.count(v % 7));
        }
    }

    private boolean skipped;

    private int skip() {
        skipped = true;
        return 0;
    }

    private int lastTwin(int b) {
        boolean s = skipped;
        skipped = false;
        return s ? 0 : y.twin(b);
    }

    /** A row that follows the book for a while. */
    private void watched(int b) {
        due("blank()", x.blank(), y.blank());
        StringBuilder row = new StringBuilder();
        int place = 0;
        for (int i = any(8); i > 0; i--) {
            int f = x.follow(b, place);
            if (f < 2) {
                break;
            }
            int a = 1 + any(15);
            while ((f >> a & 1) == 0) {
                a = 1 + any(15);
            }
            int code = x.act(b, a);
            row.append(code >= 100 ? '?' : '!').append(code / 10 % 10).append((char) ('a' + code % 10));
            place = a;
        }
        if (any(5) == 0) {
            row.append(anAct(false, -1));
        }
        if (any(15) == 0) {
            row.append("!");
        }
        write(row.toString());
        due("watch(" + b + ") of " + row, x.watch(b), y.watch(b));
    }

    private void talkCall() {
        int a = some(3);
        int b = any(10) == 0 ? some(3) : a < 0 || a > 2 ? any(3) : (a + 1 + any(2)) % 3;
        int k = some(5);
        int v = some(4);
        int s = some(x.steps());
        int item = any(4) == 0 ? some(100) : any(2) == 0 ? any(2) : 10 + any(8);
        int seed = any(20) == 0 ? some(100) : dice.nextInt() & 0x7fffffff;
        int n = any(20) == 0 ? some(201) : 1 + any(10);
        switch (any(22)) {
            case 0: { int c = any(4) == 0 ? -1 : some(x.count(0)); due("seat(" + a + ", " + c + ")", x.seat(a, c), y.seat(a, c)); break; }
            case 1: due("post(" + a + ", " + b + ", " + k + ")", x.post(a, b, k), y.post(a, b, k)); break;
            case 2: due("as(" + a + ", " + b + ", " + k + ")", x.as(a, b, k), y.as(a, b, k)); break;
            case 3: due("room(" + v + ")", x.room(v), y.room(v)); break;
            case 4: due("begin()", x.begin(), y.begin()); break;
            case 5: due("steps()", x.steps(), y.steps()); break;
            case 6: due("step(" + s + ")", x.step(s), y.step(s)); break;
            case 7: case 8: case 9: due("go(" + s + ")", x.go(s), y.go(s)); break;
            case 10: due("run(" + seed + ", " + n + ")", x.run(seed, n), y.run(seed, n)); break;
            case 11: due("at(" + a + ")", x.at(a), y.at(a)); break;
            case 12: case 13: due("lies(" + a + ", " + b + ", " + v + ")", x.lies(a, b, v), y.lies(a, b, v)); break;
            case 14: case 15: due("now(" + k + ")", x.now(k), y.now(k)); break;
            case 16: due("met()", x.met(), y.met()); break;
            case 17: case 18: due("find(" + k + ", " + item + ")", x.find(k, item), y.find(k, item)); break;
            case 19: due("most(" + a + ", " + b + ")", x.most(a, b), y.most(a, b)); break;
            case 20: if (any(3) == 0) { int what = some(3); due("mend(" + what + ")", x.mend(what), y.mend(what)); } break;
            default: due("count(" + v + ")", x.count(v), y.count(v));
        }
    }
}
