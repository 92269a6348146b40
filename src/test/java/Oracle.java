import java.util.ArrayDeque;
import java.util.ArrayList;
import java.util.Arrays;
import java.util.Collections;
import java.util.HashMap;
import java.util.HashSet;
import java.util.LinkedHashMap;
import java.util.List;
import java.util.Map;
import java.util.Set;
import java.util.TreeMap;
import java.util.TreeSet;

/**
 * The document told a second time, as plainly and slowly as can be, with the library's own means and
 * by other ways than the class takes: OracleTest holds the two against one another.
 */
final class Oracle {
    static final int NONE = -1, SPENT = -2, UNKNOWN = -101, OUTSIDE = -102, STATE = -103, FULL = -104;

    // ---- texts

    /** A tree of a text: an act ("!1a", "01a"), a row (";"), a choice ("+"), a loop ("*"). */
    static final class Tree {
        final String sort;
        final List<Tree> parts = new ArrayList<>();

        Tree(String sort) {
            this.sort = sort;
        }

        boolean idle() {
            switch (sort) {
                case ";": return parts.stream().allMatch(Tree::idle);
                case "+": return parts.stream().anyMatch(Tree::idle);
                case "*": return true;
                default: return sort.isEmpty();
            }
        }

        boolean hasIdleLoop() {
            return sort.equals("*") && parts.stream().anyMatch(Tree::idle) || parts.stream().anyMatch(Tree::hasIdleLoop);
        }

        /** The text that is left for an office. */
        Tree parted(int office) {
            if (sort.length() == 3) {
                if (sort.charAt(0) - '0' == office) {
                    return new Tree("!" + sort.substring(1));
                }
                if (sort.charAt(1) - '0' == office) {
                    return new Tree("?" + sort.charAt(0) + sort.charAt(2));
                }
                return new Tree("");
            }
            Tree t = new Tree(sort);
            for (Tree p : parts) {
                t.parts.add(p.parted(office));
            }
            return t;
        }
    }

    private static final class Parser {
        final String text;
        final boolean one;
        int i;

        Parser(String text, boolean one) {
            this.text = text;
            this.one = one;
        }

        boolean comes(char c) {
            if (i < text.length() && text.charAt(i) == c) {
                i++;
                return true;
            }
            return false;
        }

        Tree row() {
            Tree t = new Tree(";");
            do {
                Tree item = item();
                if (item == null) {
                    return null;
                }
                t.parts.add(item);
            } while (comes(';'));
            return t;
        }

        Tree item() {
            if (!comes('{')) {
                String act = text.substring(i, Math.min(i + 3, text.length()));
                if (!act.matches(one ? "[0-2][0-2][a-d]" : "[!?][0-2][a-d]") || one && act.charAt(0) == act.charAt(1)) {
                    return null;
                }
                i += 3;
                return new Tree(act);
            }
            List<Tree> rows = new ArrayList<>();
            do {
                Tree row = row();
                if (row == null) {
                    return null;
                }
                rows.add(row);
            } while (comes('+'));
            if (!comes('}')) {
                return null;
            }
            Tree t = new Tree(comes('*') ? "*" : "+");
            t.parts.addAll(rows);
            return t;
        }
    }

    static Tree parse(String text, boolean one) {
        Parser p = new Parser(text, one);
        Tree t = p.row();
        return t != null && p.i == text.length() ? t : null;
    }

    /** Whether some text of any length begins so: tried by what can close it. */
    static boolean begins(String start, boolean one) {
        String[] ends = one ? new String[] {"", "01a", "1a", "2a", "a", ";01a"} : new String[] {"", "!0a", "0a", "a"};
        StringBuilder braces = new StringBuilder();
        for (int k = 0; k <= 61; k++) {
            for (String end : ends) {
                if (parse(start + end + braces, one) != null) {
                    return true;
                }
            }
            braces.append('}');
        }
        return false;
    }

    // ---- books

    static final class ABook {
        final List<String> acts = new ArrayList<>();
        final List<Set<Integer>> follow = new ArrayList<>();
        final List<Boolean> end = new ArrayList<>();

        int code(int act) {
            return codeOf(acts.get(act - 1));
        }

        int bits(int place) {
            int b = end.get(place) ? 1 : 0;
            for (int a : follow.get(place)) {
                b |= 1 << a;
            }
            return b;
        }

        boolean ends(Set<Integer> places) {
            return places.stream().anyMatch(end::get);
        }

        TreeMap<Integer, Set<Integer>> moves(Set<Integer> places) {
            TreeMap<Integer, Set<Integer>> m = new TreeMap<>();
            for (int p : places) {
                for (int a : follow.get(p)) {
                    m.computeIfAbsent(code(a), k -> new TreeSet<>()).add(a);
                }
            }
            return m;
        }
    }

    static int codeOf(String act) {
        return (act.charAt(0) == '?' ? 100 : 0) + 10 * (act.charAt(1) - '0') + act.charAt(2) - 'a';
    }

    /** A net of knots with free ways and one way for each act. */
    private static final class Net {
        final List<List<Integer>> free = new ArrayList<>();
        final Map<Integer, Integer> actAt = new HashMap<>();
        final List<Integer> behind = new ArrayList<>();
        final ABook book = new ABook();

        int knot() {
            free.add(new ArrayList<>());
            return free.size() - 1;
        }

        void way(int a, int b) {
            free.get(a).add(b);
        }

        int lay(Tree t, int from) {
            switch (t.sort) {
                case ";": {
                    int at = from;
                    for (Tree p : t.parts) {
                        at = lay(p, at);
                    }
                    return at;
                }
                case "+": {
                    int out = knot();
                    for (Tree p : t.parts) {
                        int in = knot();
                        way(from, in);
                        way(lay(p, in), out);
                    }
                    return out;
                }
                case "*": {
                    int hub = knot();
                    way(from, hub);
                    for (Tree p : t.parts) {
                        int in = knot();
                        way(hub, in);
                        way(lay(p, in), hub);
                    }
                    int out = knot();
                    way(hub, out);
                    return out;
                }
                case "": {
                    int out = knot();
                    way(from, out);
                    return out;
                }
                default: {
                    int in = knot();
                    int out = knot();
                    way(from, in);
                    book.acts.add(t.sort);
                    actAt.put(in, book.acts.size());
                    behind.add(out);
                    return out;
                }
            }
        }

        ABook make(Tree t) {
            int start = knot();
            int goal = lay(t, start);
            behind.add(0, start);
            for (int s : behind) {
                Set<Integer> seen = new HashSet<>();
                ArrayDeque<Integer> open = new ArrayDeque<>();
                open.add(s);
                TreeSet<Integer> acts = new TreeSet<>();
                while (!open.isEmpty()) {
                    int k = open.poll();
                    if (seen.add(k)) {
                        open.addAll(free.get(k));
                        if (actAt.containsKey(k)) {
                            acts.add(actAt.get(k));
                        }
                    }
                }
                book.follow.add(acts);
                book.end.add(seen.contains(goal));
            }
            return book;
        }
    }

    static ABook make(Tree t) {
        return new Net().make(t);
    }

    /** By the table of pairs that are told apart, of all sets of places that can be reached. */
    static int fewest(ABook b) {
        List<Set<Integer>> sets = new ArrayList<>();
        sets.add(Set.of());
        sets.add(new TreeSet<>(Set.of(0)));
        List<TreeMap<Integer, Set<Integer>>> moves = new ArrayList<>();
        moves.add(new TreeMap<>());
        for (int i = 1; i < sets.size(); i++) {
            TreeMap<Integer, Set<Integer>> m = b.moves(sets.get(i));
            moves.add(m);
            for (Set<Integer> s : m.values()) {
                if (!sets.contains(s)) {
                    sets.add(s);
                }
            }
        }
        int n = sets.size();
        boolean[][] apart = new boolean[n][n];
        for (int i = 0; i < n; i++) {
            for (int j = 0; j < n; j++) {
                apart[i][j] = b.ends(sets.get(i)) != b.ends(sets.get(j));
            }
        }
        int[][] to = new int[n][124];
        for (int i = 0; i < n; i++) {
            for (Map.Entry<Integer, Set<Integer>> e : moves.get(i).entrySet()) {
                to[i][e.getKey()] = sets.indexOf(e.getValue());
            }
        }
        boolean more = true;
        while (more) {
            more = false;
            for (int i = 0; i < n; i++) {
                for (int j = 0; j < n; j++) {
                    for (int c = 0; c < 124 && !apart[i][j]; c++) {
                        if (apart[to[i][c]][to[j][c]]) {
                            apart[i][j] = true;
                            more = true;
                        }
                    }
                }
            }
        }
        int places = 0;
        for (int i = 1; i < n; i++) {
            boolean fresh = apart[i][0];
            for (int j = 1; j < i; j++) {
                fresh &= apart[i][j];
            }
            places += fresh ? 1 : 0;
        }
        return places;
    }

    private static final class Pair {
        Set<Integer> a;
        Set<Integer> b;
        List<Integer> row = new ArrayList<>();
    }

    /** The first row that just one takes, its taker (1: the first book) behind it; null: they are the same. */
    static List<Integer> tell(ABook a, ABook b) {
        ArrayDeque<Pair> open = new ArrayDeque<>();
        Set<String> seen = new HashSet<>();
        Pair p = new Pair();
        p.a = new TreeSet<>(Set.of(0));
        p.b = new TreeSet<>(Set.of(0));
        open.add(p);
        seen.add(p.a + "/" + p.b);
        while (!open.isEmpty()) {
            p = open.poll();
            if (a.ends(p.a) != b.ends(p.b)) {
                p.row.add(a.ends(p.a) ? 1 : 0);
                return p.row;
            }
            TreeMap<Integer, Set<Integer>> ma = a.moves(p.a);
            TreeMap<Integer, Set<Integer>> mb = b.moves(p.b);
            TreeSet<Integer> codes = new TreeSet<>(ma.keySet());
            codes.addAll(mb.keySet());
            for (int c : codes) {
                Pair q = new Pair();
                q.a = ma.getOrDefault(c, new TreeSet<>());
                q.b = mb.getOrDefault(c, new TreeSet<>());
                q.row.addAll(p.row);
                q.row.add(c);
                if (seen.add(q.a + "/" + q.b)) {
                    open.add(q);
                }
            }
        }
        return null;
    }

    // ---- talks

    static final class Situation {
        int[] place = new int[3];
        List<List<List<Integer>>> posts = new ArrayList<>();
        Situation from;
        int by;
        int depth;
        boolean hope;
        Set<Integer> is = new TreeSet<>();
        List<String> leads = new ArrayList<>();

        Situation() {
            for (int f = 0; f < 3; f++) {
                posts.add(new ArrayList<>());
                for (int t = 0; t < 3; t++) {
                    posts.get(f).add(new ArrayList<>());
                }
            }
        }

        Situation next(int office, int act, int told) {
            Situation s = new Situation();
            s.place = place.clone();
            s.place[office] = act;
            for (int f = 0; f < 3; f++) {
                for (int t = 0; t < 3; t++) {
                    s.posts.get(f).get(t).addAll(posts.get(f).get(t));
                }
            }
            s.from = this;
            s.by = told;
            s.depth = depth + 1;
            return s;
        }

        List<Integer> box(int from, int to) {
            return posts.get(from).get(to);
        }

        String key() {
            return Arrays.toString(place) + posts;
        }
    }

    private String page = "";
    private final List<ABook> books = new ArrayList<>();
    private final List<Tree> ones = new ArrayList<>();
    private final int[] seats = {NONE, NONE, NONE};
    private final int[][] kind = new int[3][3];
    private int room = 2;
    private Situation now = new Situation();
    private int done;
    private int mends;
    private LinkedHashMap<String, Situation> all;
    private final ABook[] desk = new ABook[3];

    List<Situation> steps(Situation s) {
        List<Situation> r = new ArrayList<>();
        for (int o = 0; o < 3; o++) {
            if (desk[o] == null) {
                continue;
            }
            for (int a : desk[o].follow.get(s.place[o])) {
                String act = desk[o].acts.get(a - 1);
                int other = act.charAt(1) - '0';
                int letter = act.charAt(2) - 'a';
                if (act.charAt(0) == '!') {
                    int k = kind[o][other];
                    if (s.box(o, other).size() < (k == 2 ? 1 : room)) {
                        Situation n = s.next(o, a, 100 * o + a);
                        n.box(o, other).add(letter);
                        if (k == 1) {
                            Collections.sort(n.box(o, other));
                        }
                        r.add(n);
                        if (k == 3) {
                            r.add(s.next(o, a, 1000 + 100 * o + a));
                        }
                    }
                } else {
                    int k = kind[other][o];
                    List<Integer> box = s.box(other, o);
                    int where = box.indexOf(letter);
                    if (where == 0 || where > 0 && k == 1) {
                        Situation n = s.next(o, a, 100 * o + a);
                        n.box(other, o).remove(where);
                        r.add(n);
                        if (k == 4) {
                            r.add(s.next(o, a, 1000 + 100 * o + a));
                        }
                    }
                }
            }
        }
        return r;
    }

    Set<Integer> sights(Situation s) {
        Set<Integer> is = new TreeSet<>();
        boolean none = steps(s).isEmpty();
        boolean ended = true;
        boolean empty = true;
        for (int o = 0; o < 3; o++) {
            ended &= desk[o] == null || desk[o].end.get(s.place[o]);
            for (int t = 0; t < 3; t++) {
                empty &= s.box(o, t).isEmpty();
            }
            if (desk[o] != null && wrong(s, o)) {
                is.add(2);
            }
        }
        if (none && !ended) {
            is.add(0);
        }
        if (none && ended && !empty) {
            is.add(1);
        }
        if (ended && empty) {
            is.add(4);
        }
        return is;
    }

    boolean wrong(Situation s, int o) {
        if (desk[o].end.get(s.place[o]) || desk[o].follow.get(s.place[o]).isEmpty()) {
            return false;
        }
        Set<String> awaited = new HashSet<>();
        Set<Integer> whom = new TreeSet<>();
        for (int a : desk[o].follow.get(s.place[o])) {
            String act = desk[o].acts.get(a - 1);
            if (act.charAt(0) == '!') {
                return false;
            }
            awaited.add(act.substring(1));
            whom.add(act.charAt(1) - '0');
        }
        for (int f : whom) {
            List<Integer> box = s.box(f, o);
            List<Integer> front = kind[f][o] == 1 || box.isEmpty() ? box : box.subList(0, 1);
            if (!box.isEmpty() && front.stream().noneMatch(l -> awaited.contains("" + f + (char) ('a' + l)))) {
                return true;
            }
        }
        return false;
    }

    /** null: SPENT. */
    LinkedHashMap<String, Situation> explore() {
        LinkedHashMap<String, Situation> met = new LinkedHashMap<>();
        ArrayDeque<Situation> open = new ArrayDeque<>();
        Situation start = new Situation();
        met.put(start.key(), start);
        open.add(start);
        while (!open.isEmpty()) {
            Situation s = open.poll();
            s.is = sights(s);
            for (Situation n : steps(s)) {
                s.leads.add(n.key());
                if (!met.containsKey(n.key())) {
                    met.put(n.key(), n);
                    open.add(n);
                    if (met.size() > 2000) {
                        return null;
                    }
                }
            }
        }
        boolean more = true;
        while (more) {
            more = false;
            for (Situation s : met.values()) {
                if (!s.hope && (s.is.contains(4) || s.leads.stream().anyMatch(k -> met.get(k).hope))) {
                    s.hope = true;
                    more = true;
                }
            }
        }
        for (Situation s : met.values()) {
            if (!s.hope) {
                s.is.add(3);
            }
        }
        return met;
    }

    private boolean explored;

    LinkedHashMap<String, Situation> survey() {
        if (!explored) {
            all = explore();
            explored = true;
        }
        return all;
    }

    private static boolean sound(LinkedHashMap<String, Situation> met) {
        return met != null && met.values().stream().noneMatch(s -> s.is.contains(0) || s.is.contains(1) || s.is.contains(2) || s.is.contains(3));
    }

    private void anew() {
        now = new Situation();
        done = 0;
        explored = false;
        for (int o = 0; o < 3; o++) {
            desk[o] = seats[o] == NONE ? null : books.get(seats[o]);
        }
    }

    // ---- the calls

    int letters(long w) {
        StringBuilder more = new StringBuilder();
        boolean over = false;
        for (int i = 0; i < 8; i++, w >>>= 8) {
            int c = (int) (w % 256 + 256) % 256;
            if (c > 126 || over && c > 0) {
                return OUTSIDE;
            }
            over |= c == 0;
            if (c > 0) {
                more.append((char) c);
            }
        }
        if (page.length() + more.length() > 60) {
            return FULL;
        }
        page += more;
        return page.length();
    }

    int blank() {
        int n = page.length();
        page = "";
        return n;
    }

    int fault(int sort) {
        if (sort != 0 && sort != 1) {
            return OUTSIDE;
        }
        for (int i = 0; i < page.length(); i++) {
            if (!begins(page.substring(0, i + 1), sort == 1)) {
                return i;
            }
        }
        return page.length();
    }

    int book() {
        Tree t = parse(page, false);
        if (t == null || t.hasIdleLoop()) {
            return STATE;
        }
        if (books.size() == 8) {
            return FULL;
        }
        books.add(make(t));
        page = "";
        return books.size() - 1;
    }

    int one() {
        Tree t = parse(page, true);
        if (t == null || t.hasIdleLoop()) {
            return STATE;
        }
        if (ones.size() == 3) {
            return FULL;
        }
        ones.add(t);
        page = "";
        return ones.size() - 1;
    }

    int own(int one, int office) {
        if (one < 0 || one >= ones.size() || office < 0 || office > 2) {
            return UNKNOWN;
        }
        if (books.size() == 8) {
            return FULL;
        }
        books.add(make(ones.get(one).parted(office)));
        return books.size() - 1;
    }

    private boolean isBook(int b) {
        return b >= 0 && b < books.size();
    }

    int twin(int book) {
        if (!isBook(book)) {
            return UNKNOWN;
        }
        if (books.size() == 8) {
            return FULL;
        }
        ABook t = new ABook();
        for (String a : books.get(book).acts) {
            t.acts.add((a.charAt(0) == '!' ? "?" : "!") + a.substring(1));
        }
        t.follow.addAll(books.get(book).follow);
        t.end.addAll(books.get(book).end);
        books.add(t);
        return books.size() - 1;
    }

    int about(int book, int what) {
        if (!isBook(book)) {
            return UNKNOWN;
        }
        ABook b = books.get(book);
        switch (what) {
            case 0: return b.acts.size();
            case 1: return b.end.get(0) ? 1 : 0;
            case 2: return fewest(b);
            case 3: return (int) b.end.stream().filter(e -> e).count();
            default: return OUTSIDE;
        }
    }

    int act(int book, int act) {
        return !isBook(book) || act < 1 || act > books.get(book).acts.size() ? UNKNOWN : books.get(book).code(act);
    }

    int follow(int book, int place) {
        return !isBook(book) || place < 0 || place > books.get(book).acts.size() ? UNKNOWN : books.get(book).bits(place);
    }

    int same(int a, int b) {
        return !isBook(a) || !isBook(b) ? UNKNOWN : tell(books.get(a), books.get(b)) == null ? 1 : 0;
    }

    int apart(int a, int b, int what) {
        if (!isBook(a) || !isBook(b)) {
            return UNKNOWN;
        }
        if (what != 0 && what != 1 && (what < 10 || what > 99)) {
            return OUTSIDE;
        }
        List<Integer> row = tell(books.get(a), books.get(b));
        if (row == null) {
            return NONE;
        }
        int n = row.size() - 1;
        return what == 0 ? n : what == 1 ? row.get(n) : what - 10 < n ? row.get(what - 10) : NONE;
    }

    int watch(int book) {
        if (!isBook(book)) {
            return UNKNOWN;
        }
        if (!page.matches("([!?][0-2][a-d])*")) {
            return STATE;
        }
        ABook b = books.get(book);
        Set<Integer> places = Set.of(0);
        for (int i = 0; i < page.length(); i += 3) {
            places = b.moves(places).get(codeOf(page.substring(i, i + 3)));
            if (places == null) {
                return i / 3;
            }
        }
        return page.length() / 3 + (b.ends(places) ? 100 : 0);
    }

    int seat(int office, int book) {
        if (office < 0 || office > 2 || book != NONE && !isBook(book)) {
            return UNKNOWN;
        }
        if (book != NONE && books.get(book).acts.stream().anyMatch(a -> a.charAt(1) - '0' == office)) {
            return STATE;
        }
        int had = seats[office];
        seats[office] = book;
        anew();
        return had;
    }

    private static boolean isPost(int from, int to) {
        return from >= 0 && from <= 2 && to >= 0 && to <= 2 && from != to;
    }

    int post(int from, int to, int k) {
        if (!isPost(from, to)) {
            return UNKNOWN;
        }
        if (k < 0 || k > 4) {
            return OUTSIDE;
        }
        int was = kind[from][to];
        kind[from][to] = k;
        anew();
        return was;
    }

    int as(int from, int to, int k) {
        if (!isPost(from, to)) {
            return UNKNOWN;
        }
        if (k < 0 || k > 4) {
            return OUTSIDE;
        }
        List<Set<Integer>> is = List.of(Set.of(0), Set.of(0, 1), Set.of(0, 2), Set.of(0, 3), Set.of(0, 3, 4));
        return is.get(kind[from][to]).contains(k) ? 10 * from + to : NONE;
    }

    int room(int v) {
        if (v < 1 || v > 3) {
            return OUTSIDE;
        }
        int was = room;
        room = v;
        anew();
        return was;
    }

    int begin() {
        int n = done;
        now = new Situation();
        done = 0;
        return n;
    }

    int steps() {
        return steps(now).size();
    }

    int step(int k) {
        List<Situation> s = steps(now);
        return k < 0 || k >= s.size() ? NONE : s.get(k).by;
    }

    int go(int k) {
        List<Situation> s = steps(now);
        if (k < 0 || k >= s.size()) {
            return STATE;
        }
        now = s.get(k);
        done++;
        return now.by;
    }

    int run(int x, int n) {
        if (x < 0 || n < 1 || n > 200) {
            return OUTSIDE;
        }
        java.math.BigInteger seed = java.math.BigInteger.valueOf(x);
        int did = 0;
        while (did < n && steps() > 0) {
            seed = seed.multiply(java.math.BigInteger.valueOf(1103515245)).add(java.math.BigInteger.valueOf(12345))
                    .mod(java.math.BigInteger.valueOf(1L << 31));
            go((int) (seed.longValue() / 65536 % steps()));
            did++;
        }
        return did;
    }

    int at(int office) {
        return office < 0 || office > 2 ? UNKNOWN : seats[office] == NONE ? NONE : now.place[office];
    }

    int lies(int from, int to, int i) {
        if (!isPost(from, to)) {
            return UNKNOWN;
        }
        List<Integer> box = now.box(from, to);
        return i < 0 || i >= box.size() ? NONE : box.get(i);
    }

    int now(int what) {
        if (what < 0 || what > 4) {
            return OUTSIDE;
        }
        if (what == 3) {
            return survey() == null ? SPENT : all.get(now.key()).is.contains(3) ? 1 : 0;
        }
        return sights(now).contains(what) ? 1 : 0;
    }

    int met() {
        return survey() == null ? SPENT : all.size();
    }

    int find(int what, int item) {
        if (what < 0 || what > 4 || item != 0 && item != 1 && (item < 10 || item > 99)) {
            return OUTSIDE;
        }
        if (survey() == null) {
            return SPENT;
        }
        List<Situation> such = new ArrayList<>();
        for (Situation s : all.values()) {
            if (s.is.contains(what)) {
                such.add(s);
            }
        }
        if (item == 0) {
            return such.size();
        }
        if (such.isEmpty()) {
            return NONE;
        }
        Situation s = such.get(0);
        if (item == 1) {
            return s.depth;
        }
        for (Situation w = s; w.from != null; w = w.from) {
            if (w.depth == item - 9) {
                return w.by;
            }
        }
        return NONE;
    }

    int most(int from, int to) {
        if (!isPost(from, to)) {
            return UNKNOWN;
        }
        return survey() == null ? SPENT : all.values().stream().mapToInt(s -> s.box(from, to).size()).max().getAsInt();
    }

    int mend(int what) {
        if (what < 0 || what > 2) {
            return OUTSIDE;
        }
        if (mends == 6) {
            return STATE;
        }
        mends++;
        if (survey() == null) {
            return SPENT;
        }
        if (sound(all)) {
            return -3;
        }
        for (int o = 0; o < 3; o++) {
            ABook was = desk[o];
            for (int a = 0; was != null && a < was.acts.size(); a++) {
                for (int l = 0; l < 4; l++) {
                    String act = was.acts.get(a);
                    if (act.charAt(2) - 'a' != l) {
                        ABook other = new ABook();
                        other.acts.addAll(was.acts);
                        other.acts.set(a, act.substring(0, 2) + (char) ('a' + l));
                        other.follow.addAll(was.follow);
                        other.end.addAll(was.end);
                        desk[o] = other;
                        boolean good = sound(explore());
                        desk[o] = was;
                        if (good) {
                            return what == 0 ? o : what == 1 ? a + 1 : l;
                        }
                    }
                }
            }
        }
        return NONE;
    }

    int count(int what) {
        switch (what) {
            case 0: return books.size();
            case 1: return ones.size();
            case 2: return page.length();
            case 3: return done;
            case 4: return now.posts.stream().mapToInt(p -> p.stream().mapToInt(List::size).sum()).sum();
            case 5: return mends;
            default: return OUTSIDE;
        }
    }

    long digest() {
        List<Long> numbers = new ArrayList<>();
        for (int b = 0; b < books.size(); b++) {
            for (int what = 0; what < 4; what++) {
                numbers.add((long) about(b, what));
            }
            for (int a = 1; act(b, a) >= 0; a++) {
                numbers.add((long) act(b, a));
            }
            for (int p = 0; follow(b, p) >= 0; p++) {
                numbers.add((long) follow(b, p));
            }
        }
        for (int o = 0; o < 3; o++) {
            numbers.add((long) seats[o]);
            numbers.add((long) at(o));
        }
        for (int f = 0; f < 3; f++) {
            for (int t = 0; t < 3; t++) {
                if (f != t) {
                    numbers.add((long) kind[f][t]);
                    for (int l : now.box(f, t)) {
                        numbers.add((long) l);
                    }
                }
            }
        }
        numbers.add((long) room);
        numbers.add((long) steps());
        numbers.add((long) met());
        for (char c : page.toCharArray()) {
            numbers.add((long) c);
        }
        for (int what = 0; what < 6; what++) {
            numbers.add((long) count(what));
        }
        long h = 307;
        for (long n : numbers) {
            h = 31 * h + n;
        }
        return h;
    }
}
