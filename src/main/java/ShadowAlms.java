import java.util.Arrays;

/** A square of beggars who are given alms by the length of their shadows. */
public final class ShadowAlms {
    public static final int NONE = -1, UNKNOWN = -1000000001, OUTSIDE = -1000000002, NOT = -1000000003, FULL = -1000000004;

    private static final int YEAR = 0, BELL = 1, SPOT = 2, BEGGAR = 3, HAT = 4, KINDS = 5;
    private static final int MOST_ALIKE = 6, MOST_NUMBERS = 3, MOST_SPOTS = 6, MOST_BEGGARS = 6, MOST_HATS = 4;
    private static final int MOST_BYTES = 500, MOST_FIGURES = 3, MOST_TOLD = 10, MOST_ENTRIES = 30, ROW = 4, IMAGES = 2;
    private static final int DAYS_UNTOLD = 12, MOST_MONEY = 999999999;
    private static final int LAW_LONGEST = 1, LAW_CAPPED = 2, CAP = 50;
    private static final int MOST_PEACE = 999, MOST_FITTING = 110;
    private static final int CANNOT_STAND = 1, BAD_NUMBER = 2, TOO_MANY = 3;

    /* By kind of clause: how many there may be, how many numbers each has, and (three to a kind) their bounds. */
    private static final int[] MOST = {1, 4, 6, 6, 4};
    private static final int[] NUMBERS = {1, 2, 3, 1, 2};
    private static final int[] LEAST = {1, 0, 0, 0, 0, 0, 0, 0, 0, 1, 0, 0, 1, 0, 0};
    private static final int[] GREATEST = {60, 0, 0, 99, 9, 0, 20, 9, 200, 90, 0, 0, 20, 50, 0};

    private final Plan plan;
    private final Reader reader;
    private final State now;
    private final State[] images;
    private final boolean[] kept;
    private final Rows tales;
    private final Rows book;
    private final Scene scene;
    private final PlaceSearch places;
    private final HatSearch lending;

    public ShadowAlms() {
        plan = new Plan();
        reader = new Reader();
        now = new State();
        images = new State[] {new State(), new State()};
        kept = new boolean[IMAGES];
        tales = new Rows(MOST_TOLD);
        book = new Rows(MOST_ENTRIES);
        scene = new Scene(plan);
        places = new PlaceSearch(plan, scene);
        lending = new HatSearch(plan, scene);
    }

    // ---- the square

    public int feed(int n, long bytes) {
        if (n < 1 || n > 8) {
            return OUTSIDE;
        }
        if (reader.length + n > MOST_BYTES) {
            return FULL;
        }
        reader.take(n, bytes);
        return reader.length;
    }

    public int square() {
        reader.read();
        if (reader.faultKind != 0) {
            return -10 - reader.faultKind;
        }
        plan.become(reader.draft);
        now.startAnew();
        tales.count = 0;
        book.count = 0;
        kept[0] = false;
        kept[1] = false;
        return plan.count(BEGGAR);
    }

    public int fault() {
        return reader.faultPlace;
    }

    public int told(int what) {
        switch (what) {
            case 0: return plan.days();
            case 1: return plan.count(BELL);
            case 2: return plan.count(SPOT);
            case 3: return plan.count(BEGGAR);
            case 4: return plan.count(HAT);
            case 5: return reader.length;
            case 6: return now.day;
            case 7: return now.law;
            case 8: return now.given;
            case 9: return tales.count;
            case 10: return book.count;
            default: return OUTSIDE;
        }
    }

    public int bell(int b, int day) {
        if (!plan.has(BELL, b)) {
            return UNKNOWN;
        }
        if (day < 0 || day > 99999) {
            return OUTSIDE;
        }
        return plan.longOf(b, day);
    }

    public int spot(int s, int what) {
        if (!plan.has(SPOT, s)) {
            return UNKNOWN;
        }
        if (what < 0 || what > 3) {
            return OUTSIDE;
        }
        return what == 3 ? now.whoIsOn(s) : plan.number(SPOT, s, what);
    }

    public int beggar(int g, int what) {
        if (!plan.has(BEGGAR, g)) {
            return UNKNOWN;
        }
        switch (what) {
            case 0: return plan.number(BEGGAR, g, 0);
            case 1: return now.where[g];
            case 2: return now.hatOf(g);
            case 3: return tallOf(g);
            case 4: return now.purse[g];
            default: return OUTSIDE;
        }
    }

    public int hat(int h, int what) {
        if (!plan.has(HAT, h)) {
            return UNKNOWN;
        }
        if (what < 0 || what > 2) {
            return OUTSIDE;
        }
        return what == 2 ? now.wearer[h] : plan.number(HAT, h, what);
    }

    public int shadow(int b, int g, int what) {
        if (!plan.has(BELL, b) || !plan.has(BEGGAR, g)) {
            return UNKNOWN;
        }
        if (what < 0 || what > 1) {
            return OUTSIDE;
        }
        showAt(b, now.day);
        return what == 0 ? scene.shade[g] : scene.almsOf(g);
    }

    // ---- what is done

    public int go(int g, int s) {
        if (!plan.has(BEGGAR, g) || (s != NONE && !plan.has(SPOT, s))) {
            return UNKNOWN;
        }
        int there = s == NONE ? NONE : now.whoIsOn(s);
        if (there != NONE && there != g) {
            return NOT;
        }
        int before = now.where[g];
        now.where[g] = s;
        return before;
    }

    public int lend(int h, int g) {
        if (!plan.has(HAT, h) || (g != NONE && !plan.has(BEGGAR, g))) {
            return UNKNOWN;
        }
        int worn = g == NONE ? NONE : now.hatOf(g);
        if (worn != NONE && worn != h) {
            return NOT;
        }
        int before = now.wearer[h];
        now.wearer[h] = g;
        return before;
    }

    public int law(int v) {
        if (v < 0 || v > 2) {
            return OUTSIDE;
        }
        int before = now.law;
        now.law = v;
        return before;
    }

    public int ring(int b) {
        return plan.has(BELL, b) ? giveAt(b) : UNKNOWN;
    }

    public int day(int n) {
        if (n < 1 || n > 99) {
            return OUTSIDE;
        }
        now.day += n;
        return now.day;
    }

    public int drift(int n) {
        if (n < 1 || n > 99) {
            return OUTSIDE;
        }
        if (plan.count(BEGGAR) == 0 || plan.count(SPOT) == 0) {
            return NOT;
        }
        int sum = 0;
        for (int i = 0; i < n; i++) {
            sum += passDayByDraws();
        }
        return sum;
    }

    // ---- tried

    public int standing(int b, int g, int s) {
        if (!plan.has(BELL, b) || (g != NONE && !plan.has(BEGGAR, g)) || (s != NONE && !plan.has(SPOT, s))) {
            return UNKNOWN;
        }
        scene.dress(now, true);
        scene.light(plan.longOf(b, now.day), now.law);
        places.seek(g);
        return s == NONE ? places.most : places.found[s];
    }

    public int hats(int b, int h) {
        if (!plan.has(BELL, b) || (h != NONE && !plan.has(HAT, h))) {
            return UNKNOWN;
        }
        scene.dress(now, false);
        scene.light(plan.longOf(b, now.day), now.law);
        lending.seek();
        return h == NONE ? lending.most : lending.found[h];
    }

    public int giant(int b, int height, int p, int what) {
        if (!plan.has(BELL, b)) {
            return UNKNOWN;
        }
        if (height < 1 || height > 200 || p < 0 || p > 999 || what < 0 || what > 1) {
            return OUTSIDE;
        }
        showAt(b, now.day);
        int without = scene.sumOfAlms();
        int giant = scene.addGiant(height);
        int where = NONE;
        int most = 0;
        for (int s = 0; s < plan.count(SPOT); s++) {
            if (scene.onSpot[s] == NONE) {
                scene.onSpot[s] = giant;
                scene.cast();
                scene.onSpot[s] = NONE;
                int more = scene.sumOfAlms() - without - p;
                if (where == NONE || more > most) {
                    where = s;
                    most = more;
                }
            }
        }
        return what == 0 ? where : most;
    }

    public int peace(int b, int v) {
        if (!plan.has(BELL, b)) {
            return UNKNOWN;
        }
        if (v < 0 || v > MOST_PEACE) {
            return OUTSIDE;
        }
        showAt(b, now.day);
        return scene.lackOf(v);
    }

    public int bread(int b, int loaves) {
        if (!plan.has(BELL, b)) {
            return UNKNOWN;
        }
        if (loaves < 0 || loaves > 9999) {
            return OUTSIDE;
        }
        showAt(b, now.day);
        int enough = NONE;
        for (int v = 0; v <= MOST_PEACE && scene.lackOf(v) <= loaves; v++) {
            enough = v;
        }
        return enough;
    }

    public int best(int g, int what) {
        if (!plan.has(BEGGAR, g)) {
            return UNKNOWN;
        }
        if (what < 0 || what > 1) {
            return OUTSIDE;
        }
        int first = 0;
        int most = almsOnDay(g, 0);
        for (int day = 1; day < plan.days(); day++) {
            int sum = almsOnDay(g, day);
            if (sum > most) {
                first = day;
                most = sum;
            }
        }
        return what == 0 ? first : most;
    }

    // ---- told shadows

    public int tell(int b, int day, int s, int inches) {
        if (!plan.has(BELL, b) || !plan.has(SPOT, s)) {
            return UNKNOWN;
        }
        if (day < 0 || day > 999 || inches < 0 || inches > 999) {
            return OUTSIDE;
        }
        if (tales.isFull()) {
            return FULL;
        }
        tales.add(b, day, s, inches);
        return tales.count;
    }

    public int fits(int what) {
        if (what < 0 || what > 2) {
            return OUTSIDE;
        }
        int many = 0;
        int least = NONE;
        int greatest = NONE;
        for (int high = 1; high <= MOST_FITTING; high++) {
            if (fitsAllTales(high)) {
                many++;
                least = least == NONE ? high : least;
                greatest = high;
            }
        }
        if (what == 0) {
            return many;
        }
        return what == 1 ? least : greatest;
    }

    public int write(int b, int g, int alms) {
        if (!plan.has(BELL, b) || !plan.has(BEGGAR, g)) {
            return UNKNOWN;
        }
        if (alms < -999 || alms > 99999) {
            return OUTSIDE;
        }
        if (book.isFull()) {
            return FULL;
        }
        book.add(b, g, alms, 0);
        return book.count;
    }

    public int tear() {
        int both = tales.count + book.count;
        tales.count = 0;
        book.count = 0;
        return both;
    }

    public int judge() {
        for (int i = 0; i < book.count; i++) {
            showAt(book.cell(i, 0), now.day);
            if (scene.almsOf(book.cell(i, 1)) != book.cell(i, 2)) {
                return i;
            }
        }
        return NONE;
    }

    // ---- draws, images

    public int seed(int v) {
        if (v < 0) {
            return OUTSIDE;
        }
        int before = now.seed;
        now.seed = v;
        return before;
    }

    public int keep(int i) {
        if (i < 0 || i >= IMAGES) {
            return UNKNOWN;
        }
        images[i].become(now);
        kept[i] = true;
        return 1;
    }

    public int goBack(int i) {
        if (i < 0 || i >= IMAGES) {
            return UNKNOWN;
        }
        if (!kept[i]) {
            return NOT;
        }
        now.become(images[i]);
        return 1;
    }

    // ---- shared by the calls

    private int tallOf(int g) {
        int tall = plan.number(BEGGAR, g, 0);
        int worn = now.hatOf(g);
        int s = now.where[g];
        if (worn != NONE) {
            tall += plan.number(HAT, worn, 0);
        }
        if (s != NONE) {
            tall += plan.number(SPOT, s, 0);
        }
        return tall;
    }

    /** Shadows and alms at a bell on a day, all standing as they are, into the scene. */
    private void showAt(int b, int day) {
        scene.dress(now, true);
        scene.light(plan.longOf(b, day), now.law);
        scene.cast();
    }

    private int giveAt(int b) {
        showAt(b, now.day);
        int sum = 0;
        for (int g = 0; g < plan.count(BEGGAR); g++) {
            now.purse[g] = Math.min(MOST_MONEY, now.purse[g] + scene.almsOf(g));
            sum += scene.gift[g];
        }
        now.given = Math.min(MOST_MONEY, now.given + sum);
        return sum;
    }

    private int passDayByDraws() {
        int sum = 0;
        for (int b = 0; b < plan.count(BELL); b++) {
            if (now.draw(4) != 0) {
                sum += giveAt(b);
            }
        }
        now.day++;
        int g = now.draw(plan.count(BEGGAR));
        int s = now.draw(plan.count(SPOT));
        if (plan.has(BEGGAR, g) && now.whoIsOn(s) == NONE) {
            now.where[g] = s;
        }
        return sum;
    }

    private int almsOnDay(int g, int day) {
        int sum = 0;
        for (int b = 0; b < plan.count(BELL); b++) {
            showAt(b, day);
            sum += scene.almsOf(g);
        }
        return sum;
    }

    private boolean fitsAllTales(int high) {
        for (int i = 0; i < tales.count; i++) {
            int s = tales.cell(i, 2);
            int tall = high + plan.number(SPOT, s, 0);
            int length = plan.longOf(tales.cell(i, 0), tales.cell(i, 1));
            if (plan.shadeOn(s, tall, length) != tales.cell(i, 3)) {
                return false;
            }
        }
        return true;
    }

    /** What a text tells: clauses by kind, each with up to three numbers. */
    private static final class Plan {
        private final int[] counts = new int[KINDS];
        private final int[] cells = new int[KINDS * MOST_ALIKE * MOST_NUMBERS];

        int count(int kind) {
            return counts[kind];
        }

        boolean has(int kind, int i) {
            return i >= 0 && i < counts[kind];
        }

        int number(int kind, int i, int which) {
            if (i < 0 || i >= counts[kind]) {
                return 0;
            }
            return cells[(kind * MOST_ALIKE + i) * MOST_NUMBERS + which];
        }

        void clear() {
            Arrays.fill(counts, 0);
        }

        void become(Plan other) {
            System.arraycopy(other.counts, 0, counts, 0, KINDS);
            System.arraycopy(other.cells, 0, cells, 0, cells.length);
        }

        void add(int kind, int[] numbers) {
            if (counts[kind] < MOST[kind]) {
                int from = (kind * MOST_ALIKE + counts[kind]) * MOST_NUMBERS;
                System.arraycopy(numbers, 0, cells, from, MOST_NUMBERS);
                counts[kind]++;
            }
        }

        /** Whether a clause of any kind but year is there. */
        boolean hasMoreThanYear() {
            return counts[BELL] + counts[SPOT] + counts[BEGGAR] + counts[HAT] > 0;
        }

        int days() {
            return counts[YEAR] == 0 ? DAYS_UNTOLD : Math.max(1, number(YEAR, 0, 0));
        }

        int longOf(int b, int day) {
            int n = days();
            int dayOfYear = n < 1 ? 0 : day % n;
            int away = Math.min(dayOfYear, n - dayOfYear);
            return number(BELL, b, 0) + number(BELL, b, 1) * away;
        }

        /** The shadow on a spot as if nobody stood in front. */
        int shadeOn(int s, int tall, int length) {
            int shade = tall * length / 10;
            shade = shade * (10 - number(SPOT, s, 1)) / 10;
            int wall = number(SPOT, s, 2);
            return wall == 0 ? shade : Math.min(shade, wall);
        }
    }

    /** The text as it is fed, and its reading up to the first fault. */
    private static final class Reader {
        private final char[] text = new char[MOST_BYTES];
        private final int[] numbers = new int[MOST_NUMBERS];
        private int at;
        final Plan draft = new Plan();
        int length;
        int faultKind;
        int faultPlace = NONE;

        void take(int n, long bytes) {
            for (int i = n - 1; i >= 0 && length < MOST_BYTES; i--) {
                text[length] = (char) ((bytes >>> (8 * i)) & 255);
                length++;
            }
        }

        void read() {
            draft.clear();
            faultKind = 0;
            faultPlace = NONE;
            at = 0;
            skipBlanks();
            for (int i = 0; i < MOST_BYTES && at < length && faultKind == 0; i++) {
                readClause();
                skipBlanks();
            }
            length = 0;
        }

        private void readClause() {
            int start = at;
            skipLetters();
            int kind = kindOfWord(start, at);
            int wrong = faultOfKind(kind);
            if (wrong != 0) {
                noteFault(wrong, start);
                return;
            }
            for (int i = 0; i < NUMBERS[kind] && faultKind == 0; i++) {
                int bounds = kind * MOST_NUMBERS + i;
                numbers[i] = readNumber(LEAST[bounds], GREATEST[bounds]);
            }
            if (faultKind == 0) {
                readEndOfClause();
                draft.add(kind, numbers);
            }
        }

        private int faultOfKind(int kind) {
            if (kind == NONE || (kind == YEAR && draft.hasMoreThanYear())) {
                return CANNOT_STAND;
            }
            return draft.count(kind) >= MOST[kind] ? TOO_MANY : 0;
        }

        private int readNumber(int least, int greatest) {
            skipBlanks();
            int start = at;
            int value = 0;
            while (at < length && text[at] >= '0' && text[at] <= '9') {
                // further figures are a fault by their count, and must not wrap the value around
                value = at - start < MOST_FIGURES ? value * 10 + (text[at] - '0') : value;
                at++;
            }
            if (at == start) {
                noteFault(CANNOT_STAND, start);
            } else if (at - start > MOST_FIGURES || value < least || value > greatest) {
                noteFault(BAD_NUMBER, start);
            }
            return value;
        }

        private void readEndOfClause() {
            skipBlanks();
            if (at < length && text[at] == ';') {
                at++;
            } else {
                noteFault(CANNOT_STAND, at);
            }
        }

        private void skipBlanks() {
            while (at < length && text[at] == ' ') {
                at++;
            }
        }

        private void skipLetters() {
            while (at < length && text[at] >= 'a' && text[at] <= 'z') {
                at++;
            }
        }

        private int kindOfWord(int from, int to) {
            for (int kind = 0; kind < KINDS; kind++) {
                if (isWord(wordOf(kind), from, to)) {
                    return kind;
                }
            }
            return NONE;
        }

        private boolean isWord(String word, int from, int to) {
            if (to - from != word.length()) {
                return false;
            }
            for (int i = from; i < to; i++) {
                if (text[i] != word.charAt(i - from)) {
                    return false;
                }
            }
            return true;
        }

        private static String wordOf(int kind) {
            switch (kind) {
                case YEAR: return "year";
                case BELL: return "bell";
                case SPOT: return "spot";
                case BEGGAR: return "beggar";
                default: return "hat";
            }
        }

        private void noteFault(int kind, int place) {
            faultKind = kind;
            faultPlace = place;
        }
    }

    /** What changes from call to call on one square, and what an image keeps. */
    private static final class State {
        final int[] where = new int[MOST_BEGGARS];
        final int[] wearer = new int[MOST_HATS];
        final int[] purse = new int[MOST_BEGGARS];
        int day;
        int given;
        int law;
        int seed;

        State() {
            startAnew();
        }

        void startAnew() {
            Arrays.fill(where, NONE);
            Arrays.fill(wearer, NONE);
            Arrays.fill(purse, 0);
            day = 0;
            given = 0;
        }

        void become(State other) {
            System.arraycopy(other.where, 0, where, 0, MOST_BEGGARS);
            System.arraycopy(other.wearer, 0, wearer, 0, MOST_HATS);
            System.arraycopy(other.purse, 0, purse, 0, MOST_BEGGARS);
            day = other.day;
            given = other.given;
            law = other.law;
            seed = other.seed;
        }

        int whoIsOn(int s) {
            for (int g = 0; g < MOST_BEGGARS; g++) {
                if (where[g] == s) {
                    return g;
                }
            }
            return NONE;
        }

        int hatOf(int g) {
            for (int h = 0; h < MOST_HATS; h++) {
                if (wearer[h] == g) {
                    return h;
                }
            }
            return NONE;
        }

        int draw(int n) {
            seed = (int) ((seed * 1103515245L + 12345L) & 0x7fffffffL);
            return n < 1 ? 0 : seed / 65536 % n;
        }
    }

    /** Rows of up to four numbers, counted. */
    private static final class Rows {
        private final int most;
        private final int[] cells;
        int count;

        Rows(int most) {
            this.most = most;
            cells = new int[ROW * most];
        }

        boolean isFull() {
            return count >= most;
        }

        void add(int first, int second, int third, int fourth) {
            if (count < most) {
                cells[ROW * count] = first;
                cells[ROW * count + 1] = second;
                cells[ROW * count + 2] = third;
                cells[ROW * count + 3] = fourth;
                count++;
            }
        }

        int cell(int row, int column) {
            return row < 0 || row >= count || column < 0 || column >= ROW ? 0 : cells[ROW * row + column];
        }
    }

    /** All people at one bell: how high they are, where they stand, and what that brings. A giant is one more. */
    private static final class Scene {
        private final Plan plan;
        private int people;
        private int length;
        private int law;
        final int[] high = new int[MOST_BEGGARS + 1];
        final int[] cost = new int[MOST_BEGGARS + 1];
        final int[] shade = new int[MOST_BEGGARS + 1];
        final int[] gift = new int[MOST_BEGGARS + 1];
        final int[] onSpot = new int[MOST_SPOTS];

        Scene(Plan plan) {
            this.plan = plan;
        }

        void dress(State state, boolean withHats) {
            people = plan.count(BEGGAR);
            Arrays.fill(onSpot, NONE);
            for (int g = 0; g < people; g++) {
                high[g] = plan.number(BEGGAR, g, 0);
                cost[g] = 0;
                if (plan.has(SPOT, state.where[g])) {
                    onSpot[state.where[g]] = g;
                }
            }
            for (int h = 0; withHats && h < plan.count(HAT); h++) {
                if (plan.has(BEGGAR, state.wearer[h])) {
                    putHat(h, state.wearer[h]);
                }
            }
        }

        void light(int length, int law) {
            this.length = length;
            this.law = law;
        }

        void putHat(int h, int g) {
            high[g] += plan.number(HAT, h, 0);
            cost[g] += plan.number(HAT, h, 1);
        }

        void takeHat(int h, int g) {
            high[g] -= plan.number(HAT, h, 0);
            cost[g] -= plan.number(HAT, h, 1);
        }

        int addGiant(int height) {
            int giant = plan.count(BEGGAR);
            high[giant] = height;
            cost[giant] = 0;
            people = giant + 1;
            return giant;
        }

        void cast() {
            castShades();
            if (law == LAW_LONGEST) {
                giveAllToLongest();
                return;
            }
            for (int g = 0; g < people; g++) {
                gift[g] = law == LAW_CAPPED ? Math.min(shade[g], CAP) : shade[g];
            }
        }

        private void castShades() {
            Arrays.fill(shade, 0);
            int tallInFront = 0;
            for (int s = 0; s < plan.count(SPOT); s++) {
                int g = onSpot[s];
                int tall = 0;
                if (isHere(g)) {
                    tall = high[g] + plan.number(SPOT, s, 0);
                    shade[g] = tallInFront > tall ? 0 : plan.shadeOn(s, tall, length);
                }
                tallInFront = tall;
            }
        }

        /* Who stands nowhere has no shadow: if he were the longest, there would be nothing to give. */
        private void giveAllToLongest() {
            int longest = 0;
            int sum = 0;
            for (int g = 0; g < people; g++) {
                longest = shade[g] > shade[longest] ? g : longest;
                sum += shade[g];
            }
            Arrays.fill(gift, 0);
            gift[longest] = sum;
        }

        private boolean isHere(int g) {
            return g >= 0 && g < people;
        }

        int almsOf(int g) {
            return isHere(g) ? gift[g] - cost[g] : 0;
        }

        int sumOfAlms() {
            int sum = 0;
            for (int g = 0; g < people; g++) {
                sum += gift[g] - cost[g];
            }
            return sum;
        }

        int lackOf(int v) {
            int sum = 0;
            for (int g = 0; g < people; g++) {
                sum += Math.max(0, v - (gift[g] - cost[g]));
            }
            return sum;
        }
    }

    /** Who stands where, gone through spot by spot in the document's order, so that the first of like ones stays. */
    private static final class PlaceSearch {
        private final Plan plan;
        private final Scene scene;
        private int forWhom;
        private boolean any;
        int most;
        final int[] found = new int[MOST_SPOTS];

        PlaceSearch(Plan plan, Scene scene) {
            this.plan = plan;
            this.scene = scene;
        }

        void seek(int forWhom) {
            this.forWhom = forWhom;
            any = false;
            fill(0, Math.min(plan.count(BEGGAR), plan.count(SPOT)), 0);
        }

        /** Spots from s on are filled with left more beggars, none of them out of the set placed. */
        private void fill(int s, int left, int placed) {
            int spots = plan.count(SPOT);
            if (s >= spots || s >= MOST_SPOTS) {
                weigh();
                return;
            }
            for (int g = 0; g < plan.count(BEGGAR) && left > 0; g++) {
                if ((placed >> g & 1) == 0) {
                    scene.onSpot[s] = g;
                    fill(s + 1, left - 1, placed | 1 << g);
                }
            }
            if (left < spots - s) {
                scene.onSpot[s] = NONE;
                fill(s + 1, left, placed);
            }
        }

        private void weigh() {
            scene.cast();
            int worth = forWhom == NONE ? scene.sumOfAlms() : scene.almsOf(forWhom);
            if (!any || worth > most) {
                any = true;
                most = worth;
                System.arraycopy(scene.onSpot, 0, found, 0, MOST_SPOTS);
            }
        }
    }

    /** Which hat on whom, gone through hat by hat in the document's order, so that the first of like ones stays. */
    private static final class HatSearch {
        private final Plan plan;
        private final Scene scene;
        private final int[] trial = new int[MOST_HATS];
        private boolean any;
        int most;
        final int[] found = new int[MOST_HATS];

        HatSearch(Plan plan, Scene scene) {
            this.plan = plan;
            this.scene = scene;
        }

        void seek() {
            any = false;
            int bare = 0;
            for (int s = 0; s < plan.count(SPOT); s++) {
                if (scene.onSpot[s] != NONE) {
                    bare |= 1 << scene.onSpot[s];
                }
            }
            handOut(0, bare);
        }

        /** Hats from h on are handed out among the set of those who stand bareheaded. */
        private void handOut(int h, int bare) {
            if (h >= plan.count(HAT) || h >= MOST_HATS) {
                weigh();
                return;
            }
            trial[h] = NONE;
            handOut(h + 1, bare);
            for (int g = 0; g < plan.count(BEGGAR); g++) {
                if ((bare >> g & 1) == 1) {
                    trial[h] = g;
                    scene.putHat(h, g);
                    handOut(h + 1, bare & ~(1 << g));
                    scene.takeHat(h, g);
                }
            }
        }

        private void weigh() {
            scene.cast();
            int worth = scene.sumOfAlms();
            if (!any || worth > most) {
                any = true;
                most = worth;
                System.arraycopy(trial, 0, found, 0, MOST_HATS);
            }
        }
    }
}
