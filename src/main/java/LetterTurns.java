import java.util.Arrays;

/**
 * Offices that write to one another and wait by short books, the posts between them, and all that
 * can come of it. The calls are told in the project's document; README.md shows how to use them.
 */
public final class LetterTurns {
    public static final int NONE = -1, SPENT = -2, UNKNOWN = -101, OUTSIDE = -102, STATE = -103, FULL = -104;

    private static final int UNBROKEN = -3;

    private static final int OFFICES = 3, POSTS = 6, LETTERS = 4;
    private static final int SIGNS = 60, ACTS = 15, PLACES = 16;
    private static final int BOOKS = 8, ONES = 3, MENDS = 6;
    private static final int SORTS = 24;
    private static final int FIRST_ITEM = 10, LAST_ITEM = 99;

    private static final int OF_BOOK = 0, OF_ONE = 1;
    private static final int EVERYBODY = -1;

    private static final int POST = 0, HEAP = 1, SHORT = 2, LOST = 3, TWICE = 4, KINDS = 5;
    private static final int STUCK = 0, ORPHAN = 1, WRONG = 2, FOREVER = 3, DONE = 4, SIGHTS = 5;

    private final Page page = new Page();
    private final Reader reader = new Reader();
    private final Folder folder = new Folder();
    private final Contest contest = new Contest();
    private final Book[] books = new Book[BOOKS];
    private int bookCount;
    private final Page[] ones = new Page[ONES];
    private int oneCount;
    private final int[] seats = {NONE, NONE, NONE};
    private final Talk talk = new Talk();
    private long state;
    private int stepsDone;
    private final Survey survey = new Survey();
    private boolean surveyed;
    private boolean mendSought;
    private final int[] mended = {NONE, NONE, NONE};
    private final int[] worth = new int[OFFICES];
    private int mendsDone;

    public LetterTurns() {
    }

    // ---- books

    public int letters(long w) {
        int more = Page.told(w);
        if (more < 0) {
            return OUTSIDE;
        }
        if (page.size + more > SIGNS) {
            return FULL;
        }
        page.append(w, more);
        return page.size;
    }

    public int blank() {
        int had = page.size;
        page.size = 0;
        return had;
    }

    public int fault(int sort) {
        return sort == OF_BOOK || sort == OF_ONE ? reader.faultIn(page, sort) : OUTSIDE;
    }

    public int book() {
        if (!readWhole(OF_BOOK)) {
            return STATE;
        }
        if (bookCount >= BOOKS) {
            return FULL;
        }
        page.size = 0;
        return keep(reader.gathered());
    }

    public int one() {
        if (!readWhole(OF_ONE)) {
            return STATE;
        }
        if (oneCount >= ONES) {
            return FULL;
        }
        ones[oneCount] = page.copy();
        page.size = 0;
        return oneCount++;
    }

    public int own(int one, int office) {
        if (one < 0 || one >= oneCount || !isOffice(office)) {
            return UNKNOWN;
        }
        if (bookCount >= BOOKS) {
            return FULL;
        }
        reader.gather(ones[one], OF_ONE, office);
        return keep(reader.gathered());
    }

    public int twin(int book) {
        if (!isBook(book)) {
            return UNKNOWN;
        }
        return bookCount >= BOOKS ? FULL : keep(books[book].mirrored());
    }

    public int about(int book, int what) {
        if (!isBook(book)) {
            return UNKNOWN;
        }
        switch (what) {
            case 0:
                return books[book].acts;
            case 1:
                return books[book].follow[0] & 1;
            case 2:
                return machineOf(book).places;
            case 3:
                return books[book].endings();
            default:
                return OUTSIDE;
        }
    }

    public int act(int book, int act) {
        if (!isBook(book) || act < 1 || act > books[book].acts) {
            return UNKNOWN;
        }
        return books[book].code[act];
    }

    public int follow(int book, int place) {
        if (!isBook(book) || place < 0 || place > books[book].acts) {
            return UNKNOWN;
        }
        return books[book].follow[place];
    }

    public int same(int a, int b) {
        if (!isBook(a) || !isBook(b)) {
            return UNKNOWN;
        }
        return contest.tells(machineOf(a), machineOf(b)) ? 0 : 1;
    }

    public int apart(int a, int b, int what) {
        if (!isBook(a) || !isBook(b)) {
            return UNKNOWN;
        }
        if (what != 0 && what != 1 && !isItem(what)) {
            return OUTSIDE;
        }
        if (!contest.tells(machineOf(a), machineOf(b))) {
            return NONE;
        }
        if (what == 0) {
            return contest.length();
        }
        if (what == 1) {
            return contest.firstTakes ? 1 : 0;
        }
        return contest.codeAt(what - FIRST_ITEM);
    }

    public int watch(int book) {
        if (!isBook(book)) {
            return UNKNOWN;
        }
        if (!Reader.isRowOfActs(page)) {
            return STATE;
        }
        Machine machine = machineOf(book);
        int all = page.size / 3;
        int place = 0;
        for (int i = 0; i < all; i++) {
            place = machine.behind(place, sortOf(Reader.bookCode(page, 3 * i)));
            if (place < 0) {
                return i;
            }
        }
        return machine.end[place] ? all + 100 : all;
    }

    // ---- talks

    public int seat(int office, int book) {
        if (!isOffice(office) || book != NONE && !isBook(book)) {
            return UNKNOWN;
        }
        if (book != NONE && books[book].names(office)) {
            return STATE;
        }
        int had = seats[office];
        seats[office] = book;
        talk.give(office, book == NONE ? null : books[book]);
        changeTalk();
        return had;
    }

    public int post(int from, int to, int kind) {
        if (!isPost(from, to)) {
            return UNKNOWN;
        }
        if (kind < 0 || kind >= KINDS) {
            return OUTSIDE;
        }
        int number = postOf(from, to);
        int was = talk.kind[number];
        talk.kind[number] = kind;
        changeTalk();
        return was;
    }

    public int as(int from, int to, int kind) {
        if (!isPost(from, to)) {
            return UNKNOWN;
        }
        if (kind < 0 || kind >= KINDS) {
            return OUTSIDE;
        }
        return isSuch(talk.kind[postOf(from, to)], kind) ? 10 * from + to : NONE;
    }

    public int room(int v) {
        if (v < 1 || v > 3) {
            return OUTSIDE;
        }
        int was = talk.room;
        talk.room = v;
        changeTalk();
        return was;
    }

    public int begin() {
        int did = stepsDone;
        beginAnew();
        return did;
    }

    public int steps() {
        return talk.list(state);
    }

    public int step(int k) {
        int may = talk.list(state);
        return k < 0 || k >= may ? NONE : talk.told[k];
    }

    public int go(int k) {
        int may = talk.list(state);
        if (k < 0 || k >= may) {
            return STATE;
        }
        doListed(k);
        return talk.told[k];
    }

    public int run(int x, int n) {
        if (x < 0 || n < 1 || n > 200) {
            return OUTSIDE;
        }
        long seed = x;
        for (int i = 0; i < n; i++) {
            int may = talk.list(state);
            if (may <= 0) {
                return i;
            }
            seed = 1103515245L * seed + 12345L & 0x7fffffffL;
            doListed((int) ((seed >>> 16) % may));
        }
        return n;
    }

    public int at(int office) {
        if (!isOffice(office)) {
            return UNKNOWN;
        }
        return seats[office] == NONE ? NONE : Talk.placeIn(state, office);
    }

    public int lies(int from, int to, int i) {
        if (!isPost(from, to)) {
            return UNKNOWN;
        }
        return talk.lying(state, postOf(from, to), i);
    }

    public int now(int what) {
        if (what < 0 || what >= SIGHTS) {
            return OUTSIDE;
        }
        if (what != FOREVER) {
            return talk.marks(state, talk.list(state)) >>> what & 1;
        }
        Survey all = surveyNow();
        return all.spent ? SPENT : all.marksOf(state) >>> FOREVER & 1;
    }

    // ---- all states

    public int met() {
        Survey all = surveyNow();
        return all.spent ? SPENT : all.size;
    }

    public int find(int what, int item) {
        if (what < 0 || what >= SIGHTS || item != 0 && item != 1 && !isItem(item)) {
            return OUTSIDE;
        }
        Survey all = surveyNow();
        if (all.spent) {
            return SPENT;
        }
        if (item == 0) {
            return all.tally[what];
        }
        int target = all.first[what];
        if (target < 0) {
            return NONE;
        }
        return item == 1 ? all.depthOf(target) : all.stepTo(target, item - FIRST_ITEM);
    }

    public int most(int from, int to) {
        if (!isPost(from, to)) {
            return UNKNOWN;
        }
        Survey all = surveyNow();
        return all.spent ? SPENT : all.fullest(talk, postOf(from, to));
    }

    public int mend(int what) {
        if (what < 0 || what > 2) {
            return OUTSIDE;
        }
        if (mendsDone >= MENDS) {
            return STATE;
        }
        mendsDone++;
        Survey all = surveyNow();
        if (all.spent) {
            return SPENT;
        }
        if (all.isSound()) {
            return UNBROKEN;
        }
        if (!mendSought) {
            seekMend();
            mendSought = true;
        }
        return mended[what];
    }

    // ---- what is told

    public int count(int what) {
        switch (what) {
            case 0:
                return bookCount;
            case 1:
                return oneCount;
            case 2:
                return page.size;
            case 3:
                return stepsDone;
            case 4:
                return talk.lyingInAll(state);
            case 5:
                return mendsDone;
            default:
                return OUTSIDE;
        }
    }

    public long digest() {
        long h = 307;
        for (int b = 0; b < bookCount; b++) {
            h = withBook(h, b);
        }
        for (int office = 0; office < OFFICES; office++) {
            h = with(with(h, seats[office]), at(office));
        }
        for (int number = 0; number < POSTS; number++) {
            h = withPost(h, number);
        }
        h = with(with(with(h, talk.room), talk.list(state)), met());
        for (int i = 0; i < page.size; i++) {
            h = with(h, page.sign[i]);
        }
        for (int what = 0; what <= 5; what++) {
            h = with(h, count(what));
        }
        return h;
    }

    // ---- helpers

    private static long with(long h, long number) {
        return 31 * h + number;
    }

    private long withBook(long h, int book) {
        Book told = books[book];
        long sum = with(with(h, told.acts), told.follow[0] & 1);
        sum = with(with(sum, machineOf(book).places), told.endings());
        for (int a = 1; a <= told.acts; a++) {
            sum = with(sum, told.code[a]);
        }
        for (int place = 0; place <= told.acts; place++) {
            sum = with(sum, told.follow[place]);
        }
        return sum;
    }

    private long withPost(long h, int number) {
        long sum = with(h, talk.kind[number]);
        int load = talk.loadIn(state, number);
        for (int i = 0; i < load; i++) {
            sum = with(sum, talk.lying(state, number, i));
        }
        return sum;
    }

    private boolean isBook(int number) {
        return number >= 0 && number < bookCount;
    }

    private static boolean isOffice(int number) {
        return number >= 0 && number < OFFICES;
    }

    private static boolean isPost(int from, int to) {
        return isOffice(from) && isOffice(to) && from != to;
    }

    private static boolean isItem(int what) {
        return what >= FIRST_ITEM && what <= LAST_ITEM;
    }

    private static boolean isSuch(int kind, int wanted) {
        return wanted == POST || kind == wanted || kind == TWICE && wanted == LOST;
    }

    /** POSTS in the order in which digest() tells them. */
    private static int postOf(int from, int to) {
        return 2 * from + (to > from ? to - 1 : to);
    }

    /** Sorts of acts stand in the order of what act() tells, without its gaps. */
    private static int sortOf(int code) {
        return code / 100 * 12 + code / 10 % 10 * LETTERS + code % 10;
    }

    private static int codeOf(int sort) {
        return sort / 12 * 100 + sort % 12 / LETTERS * 10 + sort % LETTERS;
    }

    private boolean readWhole(int sort) {
        if (reader.faultIn(page, sort) < page.size || !reader.isWhole()) {
            return false;
        }
        reader.gather(page, sort, EVERYBODY);
        return !reader.idleLoop;
    }

    private int keep(Book book) {
        books[bookCount] = book;
        return bookCount++;
    }

    private Machine machineOf(int book) {
        if (books[book].machine == null) {
            books[book].machine = folder.fold(books[book]);
        }
        return books[book].machine;
    }

    private void beginAnew() {
        state = 0;
        stepsDone = 0;
    }

    private void changeTalk() {
        beginAnew();
        surveyed = false;
        mendSought = false;
    }

    /** The k-th of the steps that were listed last; the caller knows that there are so many. */
    private void doListed(int k) {
        state = talk.after[k];
        stepsDone++;
    }

    private Survey surveyNow() {
        if (!surveyed) {
            survey.explore(talk, false);
            surveyed = true;
        }
        return survey;
    }

    /** Tries take the survey's rows, so what is worth trying is asked ahead of all, and it is no more that of the talk. */
    private void seekMend() {
        Arrays.fill(mended, NONE);
        for (int office = 0; office < OFFICES; office++) {
            worth[office] = survey.worthMending(talk, office);
        }
        surveyed = false;
        for (int office = 0; office < OFFICES; office++) {
            for (int act = 1; act <= ACTS; act++) {
                if ((worth[office] >>> act & 1) != 0 && mendsAct(office, act)) {
                    return;
                }
            }
        }
    }

    private boolean mendsAct(int office, int act) {
        int spot = PLACES * office + act;
        int was = talk.letter[spot];
        boolean found = false;
        for (int letter = 0; letter < LETTERS && !found; letter++) {
            if (letter != was) {
                talk.letter[spot] = letter;
                survey.explore(talk, true);
                if (survey.isSound()) {
                    mended[0] = office;
                    mended[1] = act;
                    mended[2] = letter;
                    found = true;
                }
            }
        }
        talk.letter[spot] = was;
        return found;
    }

    /** A text that is written sign by sign, or kept. */
    private static final class Page {
        final int[] sign = new int[SIGNS];
        int size;

        /** How many signs w tells, or OUTSIDE. */
        static int told(long w) {
            int signs = 0;
            boolean over = false;
            for (int i = 0; i < 8; i++) {
                int code = byteOf(w, i);
                if (code > 126 || over && code != 0) {
                    return OUTSIDE;
                }
                if (code == 0) {
                    over = true;
                } else {
                    signs++;
                }
            }
            return signs;
        }

        static int byteOf(long w, int i) {
            return (int) (w >>> 8 * i) & 255;
        }

        void append(long w, int more) {
            for (int i = 0; i < more && size < SIGNS; i++) {
                sign[size] = byteOf(w, i);
                size++;
            }
        }

        Page copy() {
            Page other = new Page();
            System.arraycopy(sign, 0, other.sign, 0, SIGNS);
            other.size = size;
            return other;
        }
    }

    /**
     * Reads texts of books and ones. A text has two readings: the first looks at its signs alone, the
     * second, of a text that is whole, gathers which acts come first, last and behind one another.
     */
    private static final class Reader {
        private static final int ITEM = 0, SECOND = 1, THIRD = 2, OVER = 3, CLOSED = 4, BROKEN = 5;

        /** Whether something within a loop may be done by doing nothing. */
        boolean idleLoop;

        private int phase;
        private int depth;
        private int acts;
        private final int[] code = new int[PLACES];
        private final int[] follow = new int[PLACES];
        // of each depth of braces: the row that is being read, and the rows ahead of it taken together
        private final int[] rowFirst = new int[SIGNS + 1];
        private final int[] rowLast = new int[SIGNS + 1];
        private final boolean[] rowIdle = new boolean[SIGNS + 1];
        private final int[] anyFirst = new int[SIGNS + 1];
        private final int[] anyLast = new int[SIGNS + 1];
        private final boolean[] anyIdle = new boolean[SIGNS + 1];

        int faultIn(Page text, int sort) {
            phase = ITEM;
            depth = 0;
            int last = 0;
            for (int i = 0; i < text.size; i++) {
                phase = phaseBehind(text.sign[i], last, sort);
                if (phase == BROKEN) {
                    return i;
                }
                last = text.sign[i];
            }
            return text.size;
        }

        /** Of the text in which faultIn() found none. */
        boolean isWhole() {
            return depth == 0 && (phase == OVER || phase == CLOSED);
        }

        private int phaseBehind(int sign, int last, int sort) {
            switch (phase) {
                case ITEM:
                    if (sign == '{') {
                        depth++;
                        return ITEM;
                    }
                    return startsAct(sign, sort) ? SECOND : BROKEN;
                case SECOND:
                    return isDigit(sign) && (sort == OF_BOOK || sign != last) ? THIRD : BROKEN;
                case THIRD:
                    return isLetter(sign) ? OVER : BROKEN;
                case CLOSED:
                    return sign == '*' ? OVER : phaseBehindItem(sign);
                default:
                    return phaseBehindItem(sign);
            }
        }

        private int phaseBehindItem(int sign) {
            if (sign == ';') {
                return ITEM;
            }
            if (depth > 0 && sign == '+') {
                return ITEM;
            }
            if (depth > 0 && sign == '}') {
                depth--;
                return CLOSED;
            }
            return BROKEN;
        }

        private static boolean startsAct(int sign, int sort) {
            return sort == OF_BOOK ? isMark(sign) : isDigit(sign);
        }

        private static boolean isMark(int sign) {
            return sign == '!' || sign == '?';
        }

        private static boolean isDigit(int sign) {
            return sign >= '0' && sign <= '2';
        }

        private static boolean isLetter(int sign) {
            return sign >= 'a' && sign <= 'd';
        }

        static boolean isRowOfActs(Page text) {
            if (text.size % 3 != 0) {
                return false;
            }
            for (int i = 0; i + 2 < text.size; i += 3) {
                if (!isMark(text.sign[i]) || !isDigit(text.sign[i + 1]) || !isLetter(text.sign[i + 2])) {
                    return false;
                }
            }
            return true;
        }

        /** The act of a book whose first sign stands at i, as act() tells it. */
        static int bookCode(Page text, int i) {
            return (text.sign[i] == '?' ? 100 : 0) + 10 * (text.sign[i + 1] - '0') + text.sign[i + 2] - 'a';
        }

        /** The act of a one for an office, or NONE if it is left out there. */
        private static int partCode(Page text, int i, int office) {
            int sender = text.sign[i] - '0';
            int reader = text.sign[i + 1] - '0';
            int letter = text.sign[i + 2] - 'a';
            if (office == EVERYBODY || office == sender) {
                return 10 * reader + letter;
            }
            return office == reader ? 100 + 10 * sender + letter : NONE;
        }

        /** Gathers a whole text; of a one either the part of an office, or the acts of everybody. */
        void gather(Page text, int sort, int office) {
            idleLoop = false;
            depth = 0;
            acts = 0;
            Arrays.fill(follow, 0);
            openBraces();
            for (int i = 0; i < text.size; i++) {
                int sign = text.sign[i];
                if (isLetter(sign) && i >= 2) {
                    addAct(sort == OF_BOOK ? bookCode(text, i - 2) : partCode(text, i - 2, office));
                } else if (sign == '{' && depth < SIGNS) {
                    depth++;
                    openBraces();
                } else if (sign == '+') {
                    endRow();
                } else if (sign == '}' && depth > 0) {
                    closeBraces(i + 1 < text.size && text.sign[i + 1] == '*');
                }
            }
            endRow();
            follow[0] = anyFirst[0] | (anyIdle[0] ? 1 : 0);
            followUp(anyLast[0], 1);
        }

        Book gathered() {
            return new Book(acts, Arrays.copyOf(code, acts + 1), Arrays.copyOf(follow, acts + 1));
        }

        private void openBraces() {
            anyFirst[depth] = 0;
            anyLast[depth] = 0;
            anyIdle[depth] = false;
            startRow();
        }

        private void startRow() {
            rowFirst[depth] = 0;
            rowLast[depth] = 0;
            rowIdle[depth] = true;
        }

        private void endRow() {
            anyFirst[depth] |= rowFirst[depth];
            anyLast[depth] |= rowLast[depth];
            anyIdle[depth] |= rowIdle[depth];
            startRow();
        }

        private void closeBraces(boolean loop) {
            endRow();
            int first = anyFirst[depth];
            int last = anyLast[depth];
            boolean idle = anyIdle[depth];
            depth--;
            if (loop) {
                idleLoop |= idle;
                followUp(last, first);
            }
            addItem(first, last, idle || loop);
        }

        /** An act that is left out adds nothing to its row: it is done by doing nothing. */
        private void addAct(int told) {
            if (told != NONE && acts < ACTS) {
                acts++;
                code[acts] = told;
                addItem(1 << acts, 1 << acts, false);
            }
        }

        private void addItem(int first, int last, boolean idle) {
            followUp(rowLast[depth], first);
            if (rowIdle[depth]) {
                rowFirst[depth] |= first;
            }
            rowLast[depth] = idle ? rowLast[depth] | last : last;
            rowIdle[depth] &= idle;
        }

        private void followUp(int behind, int more) {
            for (int place = 1; place <= acts; place++) {
                if ((behind >>> place & 1) != 0) {
                    follow[place] |= more;
                }
            }
        }
    }

    /** A book as it was read: rows from 0 for places, from 1 for acts. */
    private static final class Book {
        final int acts;
        final int[] code;
        final int[] follow;
        /** Not made before it is asked for: many books are never compared. */
        Machine machine;

        Book(int acts, int[] code, int[] follow) {
            this.acts = acts;
            this.code = code;
            this.follow = follow;
        }

        Book mirrored() {
            int[] other = code.clone();
            for (int a = 1; a <= acts; a++) {
                other[a] = code[a] >= 100 ? code[a] - 100 : code[a] + 100;
            }
            return new Book(acts, other, follow);
        }

        int endings() {
            int ends = 0;
            for (int place = 0; place <= acts; place++) {
                ends += follow[place] & 1;
            }
            return ends;
        }

        boolean names(int office) {
            for (int a = 1; a <= acts; a++) {
                if (code[a] / 10 % 10 == office) {
                    return true;
                }
            }
            return false;
        }
    }

    /** The machine of fewest places that takes what a book takes. */
    private static final class Machine {
        final int places;
        final boolean[] end;
        private final int[] next;

        Machine(int places, int[] next, boolean[] end) {
            this.places = places;
            this.next = next;
            this.end = end;
        }

        int behind(int place, int sort) {
            return next[SORTS * place + sort];
        }
    }

    /**
     * Makes machines: first of sets of a book's places, then of what cannot be told apart among
     * these. Every set has a place from which an end can be reached, since every place has.
     */
    private static final class Folder {
        private int size;
        private int[] set = new int[64];
        private int[] next = new int[64 * SORTS];
        private int[] kin = new int[64];
        private int[] finer = new int[64];
        private int[] lead = new int[64];
        private final int[] ofSort = new int[SORTS];

        Machine fold(Book book) {
            gatherSets(book);
            int ends = 0;
            for (int place = 0; place <= book.acts; place++) {
                ends |= (book.follow[place] & 1) << place;
            }
            for (int s = 0; s < size; s++) {
                kin[s] = (set[s] & ends) != 0 ? 1 : 0;
            }
            int kinds = refine();
            for (int rounds = 0; rounds < size; rounds++) {
                int more = refine();
                if (more == kinds) {
                    break;
                }
                kinds = more;
            }
            return folded(kinds, ends);
        }

        private void gatherSets(Book book) {
            Arrays.fill(ofSort, 0);
            for (int a = 1; a <= book.acts; a++) {
                ofSort[sortOf(book.code[a])] |= 1 << a;
            }
            size = 0;
            numberOf(1);
            // sets are of 16 places: there can be no more of them
            for (int s = 0; s < size && s < 1 << PLACES; s++) {
                int may = 0;
                for (int place = 0; place <= book.acts; place++) {
                    may |= (set[s] >>> place & 1) != 0 ? book.follow[place] : 0;
                }
                for (int sort = 0; sort < SORTS; sort++) {
                    int target = may & ofSort[sort];
                    int number = target == 0 ? NONE : numberOf(target);
                    next[SORTS * s + sort] = number;
                }
            }
        }

        private int numberOf(int places) {
            for (int s = 0; s < size; s++) {
                if (set[s] == places) {
                    return s;
                }
            }
            if (size >= set.length) {
                grow();
            }
            set[size] = places;
            return size++;
        }

        private void grow() {
            int larger = 2 * set.length;
            set = Arrays.copyOf(set, larger);
            next = Arrays.copyOf(next, larger * SORTS);
            kin = new int[larger];
            finer = new int[larger];
            lead = new int[larger];
        }

        /** Parts the kins by where their acts lead: how many there are then. */
        private int refine() {
            int kinds = 0;
            for (int s = 0; s < size; s++) {
                int k = 0;
                while (k < kinds && !alike(s, lead[k])) {
                    k++;
                }
                if (k == kinds) {
                    lead[kinds] = s;
                    kinds++;
                }
                finer[s] = k;
            }
            int[] spare = kin;
            kin = finer;
            finer = spare;
            return kinds;
        }

        private boolean alike(int a, int b) {
            if (kin[a] != kin[b]) {
                return false;
            }
            for (int sort = 0; sort < SORTS; sort++) {
                if (kinOf(next[SORTS * a + sort]) != kinOf(next[SORTS * b + sort])) {
                    return false;
                }
            }
            return true;
        }

        private int kinOf(int number) {
            return number < 0 ? NONE : kin[number];
        }

        private Machine folded(int kinds, int ends) {
            int[] row = new int[kinds * SORTS];
            boolean[] end = new boolean[kinds];
            for (int k = 0; k < kinds; k++) {
                int s = lead[k];
                end[k] = (set[s] & ends) != 0;
                for (int sort = 0; sort < SORTS; sort++) {
                    row[SORTS * k + sort] = kinOf(next[SORTS * s + sort]);
                }
            }
            return new Machine(kinds, row, end);
        }
    }

    /**
     * Goes through two machines side by side, those pairs first that shorter rows reach. A pair that
     * earlier pairs make alike is left out: what could tell it apart would have told one of these
     * apart by a row that comes first. So there are never more pairs than places.
     */
    private static final class Contest {
        boolean firstTakes;

        private Machine one;
        private Machine other;
        private int nowhere;
        private int size;
        private int found;
        private int[] chief = new int[64];
        private int[] left = new int[64];
        private int[] right = new int[64];
        private int[] parent = new int[64];
        private int[] sortBy = new int[64];

        /** Whether some row tells the two apart; it is kept then. */
        boolean tells(Machine a, Machine b) {
            one = a;
            other = b;
            nowhere = a.places + b.places;
            makeRoom(nowhere + 1);
            for (int i = 0; i <= nowhere; i++) {
                chief[i] = i;
            }
            size = 0;
            found = NONE;
            meet(0, a.places, NONE, NONE);
            for (int i = 0; i < size && i <= nowhere && found == NONE; i++) {
                for (int sort = 0; sort < SORTS && found == NONE; sort++) {
                    meet(leftBehind(left[i], sort), rightBehind(right[i], sort), i, sort);
                }
            }
            return found != NONE;
        }

        int length() {
            int acts = 0;
            for (int i = found; i > 0 && acts < size; i = parent[i]) {
                acts++;
            }
            return acts;
        }

        int codeAt(int number) {
            int back = length() - 1 - number;
            if (back < 0) {
                return NONE;
            }
            int i = found;
            for (int k = 0; k < back; k++) {
                i = parent[i];
            }
            return codeOf(sortBy[i]);
        }

        private void makeRoom(int nodes) {
            if (nodes > chief.length) {
                chief = new int[2 * nodes];
                left = new int[2 * nodes];
                right = new int[2 * nodes];
                parent = new int[2 * nodes];
                sortBy = new int[2 * nodes];
            }
        }

        private int leftBehind(int node, int sort) {
            int place = node == nowhere ? NONE : one.behind(node, sort);
            return place < 0 ? nowhere : place;
        }

        private int rightBehind(int node, int sort) {
            int place = node == nowhere ? NONE : other.behind(node - one.places, sort);
            return place < 0 ? nowhere : one.places + place;
        }

        private void meet(int l, int r, int from, int sort) {
            int a = chiefOf(l);
            int b = chiefOf(r);
            if (a == b) {
                return;
            }
            chief[b] = a;
            left[size] = l;
            right[size] = r;
            parent[size] = from;
            sortBy[size] = sort;
            boolean leftEnds = l != nowhere && one.end[l];
            boolean rightEnds = r != nowhere && other.end[r - one.places];
            if (leftEnds != rightEnds) {
                found = size;
                firstTakes = leftEnds;
            }
            size++;
        }

        private int chiefOf(int node) {
            int top = node;
            for (int hops = 0; hops <= nowhere && chief[top] != top; hops++) {
                chief[top] = chief[chief[top]];
                top = chief[top];
            }
            return top;
        }
    }

    /**
     * Who has which book, the posts, and what may be done in a state. A state is one number: four
     * bits for each office's place, then eight for each post: of a heap two bits for each letter's
     * number, of others two bits for how many there are, then two for each letter, the first lowest.
     */
    private static final class Talk {
        private static final int PLACE_BITS = 4, POST_BITS = 8, POSTS_FROM = PLACE_BITS * OFFICES;

        int room = 2;
        final int[] kind = new int[POSTS];
        /** Of each office's acts the letter; a mend is tried here. */
        final int[] letter = new int[OFFICES * PLACES];
        /** The steps listed last, as they are told, and the states behind them. */
        final int[] told = new int[2 * OFFICES * ACTS];
        final long[] after = new long[2 * OFFICES * ACTS];

        private int listed;
        private final boolean[] seated = new boolean[OFFICES];
        private final int[] follow = new int[OFFICES * PLACES];
        private final int[] number = new int[OFFICES * PLACES];
        /** Of each office its acts that are waits, as bits; an end's bit is never among them. */
        private final int[] waits = new int[OFFICES];

        void give(int office, Book book) {
            int base = PLACES * office;
            for (int place = 0; place < PLACES; place++) {
                follow[base + place] = 0;
            }
            seated[office] = book != null;
            waits[office] = 0;
            if (book == null) {
                return;
            }
            System.arraycopy(book.follow, 0, follow, base, book.acts + 1);
            for (int a = 1; a <= book.acts; a++) {
                int code = book.code[a];
                int partner = code / 10 % 10;
                letter[base + a] = code % 10;
                number[base + a] = code >= 100 ? postOf(partner, office) : postOf(office, partner);
                waits[office] |= code >= 100 ? 1 << a : 0;
            }
        }

        static int placeIn(long state, int office) {
            return (int) (state >>> PLACE_BITS * office) & PLACES - 1;
        }

        private static int contentIn(long state, int post) {
            return (int) (state >>> POSTS_FROM + POST_BITS * post) & 255;
        }

        private static long withContent(long state, int post, int content) {
            int shift = POSTS_FROM + POST_BITS * post;
            return state & ~(255L << shift) | (long) content << shift;
        }

        int loadIn(long state, int post) {
            return load(kind[post], contentIn(state, post));
        }

        private static int load(int kind, int content) {
            if (kind != HEAP) {
                return content & 3;
            }
            return (content & 3) + (content >>> 2 & 3) + (content >>> 4 & 3) + (content >>> 6);
        }

        int lyingInAll(long state) {
            int sum = 0;
            for (int post = 0; post < POSTS; post++) {
                sum += loadIn(state, post);
            }
            return sum;
        }

        /** The i-th letter that lies in a post, or NONE. */
        int lying(long state, int post, int i) {
            if (i < 0 || i >= loadIn(state, post)) {
                return NONE;
            }
            int content = contentIn(state, post);
            if (kind[post] != HEAP) {
                return content >>> 2 + 2 * i & 3;
            }
            int ahead = 0;
            int found = 0;
            for (int a = 0; a < LETTERS && ahead <= i; a++) {
                found = a;
                ahead += content >>> 2 * a & 3;
            }
            return found;
        }

        private static boolean canTake(int kind, int content, int a) {
            if (kind == HEAP) {
                return (content >>> 2 * a & 3) != 0;
            }
            return (content & 3) != 0 && (content >>> 2 & 3) == a;
        }

        private static int taken(int kind, int content, int a) {
            return kind == HEAP ? content - (1 << 2 * a) : content >>> 4 << 2 | (content & 3) - 1;
        }

        private static int put(int kind, int content, int a) {
            return kind == HEAP ? content + (1 << 2 * a) : content + 1 + (a << 2 + 2 * (content & 3));
        }

        /** Lists what may be done in a state: how many steps there are. */
        int list(long state) {
            listed = 0;
            for (int office = 0; office < OFFICES; office++) {
                int may = mayAt(state, office);
                for (int act = 1; act <= ACTS && may >>> act != 0; act++) {
                    if ((may >>> act & 1) != 0) {
                        listAct(state, office, act);
                    }
                }
            }
            return listed;
        }

        private void listAct(long state, int office, int act) {
            int spot = PLACES * office + act;
            int post = number[spot];
            int how = kind[post];
            int content = contentIn(state, post);
            int shift = PLACE_BITS * office;
            long moved = state & ~(15L << shift) | (long) act << shift;
            int name = 100 * office + act;
            if ((waits[office] >>> act & 1) != 0) {
                if (canTake(how, content, letter[spot])) {
                    listStep(name, withContent(moved, post, taken(how, content, letter[spot])));
                    if (how == TWICE) {
                        listStep(1000 + name, moved);
                    }
                }
            } else if (load(how, content) < (how == SHORT ? 1 : room)) {
                listStep(name, withContent(moved, post, put(how, content, letter[spot])));
                if (how == LOST) {
                    listStep(1000 + name, moved);
                }
            }
        }

        private void listStep(int name, long behind) {
            told[listed] = name;
            after[listed] = behind;
            listed++;
        }

        /** What can be seen of a state itself, a bit each; FOREVER cannot. */
        int marks(long state, int steps) {
            boolean ended = true;
            int seen = 0;
            for (int office = 0; office < OFFICES; office++) {
                if (seated[office]) {
                    int may = mayAt(state, office);
                    boolean waiting = (may & ~waits[office]) == 0;
                    boolean wrong = waiting && (isBarred(state, office, may, (office + 1) % OFFICES)
                            || isBarred(state, office, may, (office + 2) % OFFICES));
                    ended &= (may & 1) != 0;
                    seen |= wrong ? 1 << WRONG : 0;
                }
            }
            boolean empty = state >>> POSTS_FROM == 0;
            if (ended && empty) {
                return seen | 1 << DONE;
            }
            if (steps > 0) {
                return seen;
            }
            return seen | (ended ? 1 << ORPHAN : 1 << STUCK);
        }

        int mayAt(long state, int office) {
            return follow[PLACES * office + placeIn(state, office)];
        }

        /** Whether an office is waited for whose letters lie there, but none that can be read. */
        private boolean isBarred(long state, int office, int may, int from) {
            int post = postOf(from, office);
            int content = contentIn(state, post);
            if (content == 0) {
                return false;
            }
            boolean awaited = false;
            for (int act = 1; act <= ACTS && may >>> act != 0; act++) {
                int spot = PLACES * office + act;
                if ((may >>> act & 1) != 0 && number[spot] == post) {
                    if (canTake(kind[post], content, letter[spot])) {
                        return false;
                    }
                    awaited = true;
                }
            }
            return awaited;
        }
    }

    /** All states that a talk can meet, in the order in which they are met. */
    private static final class Survey {
        private static final int MOST_STATES = 2000, SLOTS = 4096;
        private static final int BAD = 1 << STUCK | 1 << ORPHAN | 1 << WRONG;
        private static final int HOPE = 1 << SIGHTS;

        int size;
        boolean spent;
        /** Of each sight how many states there are, and the first (NONE). */
        final int[] tally = new int[SIGHTS];
        final int[] first = new int[SIGHTS];

        private boolean broken;
        private final long[] state = new long[MOST_STATES];
        private final int[] mark = new int[MOST_STATES];
        private final int[] parent = new int[MOST_STATES];
        private final int[] stepBy = new int[MOST_STATES];
        private final int[] slot = new int[SLOTS];
        private final int[] queue = new int[MOST_STATES];
        // steps backwards: of each state a chain of the states from which one leads to it
        private final int[] chain = new int[MOST_STATES];
        private int links;
        private int[] source = new int[4096];
        private int[] nextLink = new int[4096];

        /** In haste it ends at the first bad state: a mend by which there is one is none. */
        void explore(Talk talk, boolean hasty) {
            clear();
            meet(0, NONE, NONE);
            for (int i = 0; i < size && i < MOST_STATES; i++) {
                int steps = talk.list(state[i]);
                mark[i] = talk.marks(state[i], steps);
                if (hasty && (mark[i] & BAD) != 0) {
                    broken = true;
                    return;
                }
                for (int k = 0; k < steps; k++) {
                    int target = meet(talk.after[k], i, talk.told[k]);
                    if (target < 0) {
                        spent = true;
                        return;
                    }
                    link(i, target);
                }
            }
            markForever();
            for (int i = 0; i < size; i++) {
                tell(i);
            }
        }

        /** Whether no state is stuck, orphan, wrong or forever. */
        boolean isSound() {
            return !spent && !broken && tally[STUCK] + tally[ORPHAN] + tally[WRONG] + tally[FOREVER] == 0;
        }

        int marksOf(long wanted) {
            int i = slot[slotOf(wanted)] - 1;
            return i < 0 ? 0 : mark[i];
        }

        int depthOf(int target) {
            int depth = 0;
            for (int i = target; i > 0 && depth < size; i = parent[i]) {
                depth++;
            }
            return depth;
        }

        /** The number-th step on the way to a state, or NONE. */
        int stepTo(int target, int number) {
            int back = depthOf(target) - 1 - number;
            if (back < 0) {
                return NONE;
            }
            int i = target;
            for (int k = 0; k < back; k++) {
                i = parent[i];
            }
            return stepBy[i];
        }

        int fullest(Talk talk, int post) {
            int top = 0;
            for (int i = 0; i < size; i++) {
                top = Math.max(top, talk.loadIn(state[i], post));
            }
            return top;
        }

        /**
         * Acts of an office, as bits, that a mend might change. The first bad state stays bad if an
         * act is neither on the way to it nor among what may be done there; the first one from which
         * no end can be reached, if it is neither on the way to it nor among what may be done in
         * all such states.
         */
        int worthMending(Talk talk, int office) {
            int bad = firstBad();
            if (bad >= 0) {
                return actsOnWay(bad, office) | talk.mayAt(state[bad], office);
            }
            int worth = actsOnWay(first[FOREVER], office);
            for (int i = 0; i < size; i++) {
                if ((mark[i] >>> FOREVER & 1) != 0) {
                    worth |= talk.mayAt(state[i], office);
                }
            }
            return worth;
        }

        private int actsOnWay(int target, int office) {
            int acts = 0;
            int hops = 0;
            for (int i = target; i > 0 && hops < size; i = parent[i]) {
                if (stepBy[i] % 1000 / 100 == office) {
                    acts |= 1 << stepBy[i] % 100;
                }
                hops++;
            }
            return acts;
        }

        private int firstBad() {
            for (int i = 0; i < size; i++) {
                if ((mark[i] & BAD) != 0) {
                    return i;
                }
            }
            return NONE;
        }

        private void clear() {
            size = 0;
            links = 0;
            spent = false;
            broken = false;
            Arrays.fill(slot, 0);
            Arrays.fill(tally, 0);
            Arrays.fill(first, NONE);
        }

        /** The number of a state, a new one too; NONE, if there is no room for it. */
        private int meet(long found, int from, int step) {
            int s = slotOf(found);
            if (slot[s] != 0) {
                return slot[s] - 1;
            }
            if (size >= MOST_STATES) {
                return NONE;
            }
            state[size] = found;
            parent[size] = from;
            stepBy[size] = step;
            chain[size] = NONE;
            size++;
            slot[s] = size;
            return size - 1;
        }

        /** Where a state stands, or would stand; there are more slots than states. */
        private int slotOf(long wanted) {
            int s = (int) (wanted * 0x9E3779B97F4A7C15L >>> 52);
            for (int tries = 0; tries < SLOTS; tries++) {
                if (slot[s] == 0 || state[slot[s] - 1] == wanted) {
                    return s;
                }
                s = s + 1 & SLOTS - 1;
            }
            return s;
        }

        private void link(int from, int to) {
            if (links >= source.length) {
                source = Arrays.copyOf(source, 2 * links);
                nextLink = Arrays.copyOf(nextLink, 2 * links);
            }
            source[links] = from;
            nextLink[links] = chain[to];
            chain[to] = links;
            links++;
        }

        private void markForever() {
            int waiting = 0;
            for (int i = 0; i < size; i++) {
                if ((mark[i] & 1 << DONE) != 0) {
                    mark[i] |= HOPE;
                    queue[waiting] = i;
                    waiting++;
                }
            }
            for (int q = 0; q < waiting && q < MOST_STATES; q++) {
                int hops = 0;
                for (int k = chain[queue[q]]; k >= 0 && hops < links; k = nextLink[k]) {
                    int from = source[k];
                    if ((mark[from] & HOPE) == 0) {
                        mark[from] |= HOPE;
                        queue[waiting] = from;
                        waiting++;
                    }
                    hops++;
                }
            }
        }

        private void tell(int i) {
            if ((mark[i] & HOPE) == 0) {
                mark[i] |= 1 << FOREVER;
            }
            for (int what = 0; what < SIGHTS; what++) {
                if ((mark[i] >>> what & 1) != 0) {
                    if (tally[what] == 0) {
                        first[what] = i;
                    }
                    tally[what]++;
                }
            }
        }
    }
}
