import java.util.ArrayList;
import java.util.Arrays;
import java.util.HashMap;
import java.util.List;
import java.util.Map;
import java.util.function.ToLongFunction;

/** The document told a second time, slowly and with the whole library, to be held against the class. */
final class Model {
    private static final Map<String, int[][]> CLAUSES = Map.of(
        "year", new int[][] {{1, 60}},
        "bell", new int[][] {{0, 99}, {0, 9}},
        "spot", new int[][] {{0, 20}, {0, 9}, {0, 200}},
        "beggar", new int[][] {{1, 90}},
        "hat", new int[][] {{1, 20}, {0, 50}});
    private static final Map<String, Integer> MOST = Map.of("year", 1, "bell", 4, "spot", 6, "beggar", 6, "hat", 4);

    private static final class Fault extends Exception {
        private static final long serialVersionUID = 1L;
        final int number;
        final int place;

        Fault(int number, int place) {
            this.number = number;
            this.place = place;
        }
    }

    private record Token(char kind, String text, int place) {
    }

    private record Image(long day, Integer[] spots, Integer[] hats, long[] purses, long given, int law, long seed) {
    }

    private String text = "";
    private int fault = -1;
    private Map<String, List<int[]>> square = emptySquare();
    private long day;
    private Integer[] spotOf = {};
    private Integer[] hatOf = {};
    private long[] purse = {};
    private long given;
    private int law;
    private long seed;
    private final List<int[]> tales = new ArrayList<>();
    private final List<int[]> book = new ArrayList<>();
    private final Image[] images = new Image[2];

    private static Map<String, List<int[]>> emptySquare() {
        Map<String, List<int[]>> made = new HashMap<>();
        CLAUSES.keySet().forEach(word -> made.put(word, new ArrayList<>()));
        return made;
    }

    // ---- the text

    private static List<Token> tokens(String text) {
        List<Token> all = new ArrayList<>();
        for (int i = 0; i < text.length();) {
            int end = i;
            while (end < text.length() && Character.toString(text.charAt(end)).matches("[a-z]")) {
                end++;
            }
            char kind = 'w';
            if (end == i) {
                kind = 'n';
                while (end < text.length() && Character.toString(text.charAt(end)).matches("[0-9]")) {
                    end++;
                }
            }
            if (end == i) {
                kind = text.charAt(i) == ';' ? ';' : text.charAt(i) == ' ' ? ' ' : '?';
                end++;
            }
            if (kind != ' ') {
                all.add(new Token(kind, text.substring(i, end), i));
            }
            i = end;
        }
        all.add(new Token('e', "", text.length()));
        return all;
    }

    private static Map<String, List<int[]>> parse(String text) throws Fault {
        Map<String, List<int[]>> made = emptySquare();
        List<Token> all = tokens(text);
        int at = 0;
        while (all.get(at).kind() != 'e') {
            Token word = all.get(at++);
            if (word.kind() != 'w' || !CLAUSES.containsKey(word.text())) {
                throw new Fault(1, word.place());
            }
            boolean others = made.entrySet().stream().anyMatch(e -> !e.getKey().equals("year") && !e.getValue().isEmpty());
            if (word.text().equals("year") && others) {
                throw new Fault(1, word.place());
            }
            if (made.get(word.text()).size() == MOST.get(word.text())) {
                throw new Fault(3, word.place());
            }
            int[][] bounds = CLAUSES.get(word.text());
            int[] numbers = new int[bounds.length];
            for (int i = 0; i < bounds.length; i++) {
                Token number = all.get(at++);
                if (number.kind() != 'n') {
                    throw new Fault(1, number.place());
                }
                if (number.text().length() > 3) {
                    throw new Fault(2, number.place());
                }
                numbers[i] = Integer.parseInt(number.text());
                if (numbers[i] < bounds[i][0] || numbers[i] > bounds[i][1]) {
                    throw new Fault(2, number.place());
                }
            }
            Token end = all.get(at++);
            if (end.kind() != ';') {
                throw new Fault(1, end.place());
            }
            made.get(word.text()).add(numbers);
        }
        return made;
    }

    private List<int[]> all(String word) {
        return square.get(word);
    }

    private boolean not(String word, int i) {
        return i < 0 || i >= all(word).size();
    }

    private static boolean out(long x, long least, long greatest) {
        return x < least || x > greatest;
    }

    private int year() {
        return all("year").isEmpty() ? 12 : all("year").get(0)[0];
    }

    private static Integer[] nowhere(int n) {
        Integer[] made = new Integer[n];
        Arrays.fill(made, -1);
        return made;
    }

    // ---- shadows

    private long length(int b, long onDay) {
        long d = onDay % year();
        return all("bell").get(b)[0] + all("bell").get(b)[1] * Math.min(d, year() - d);
    }

    private long alone(int s, long tall, long length) {
        int[] spot = all("spot").get(s);
        long shade = tall * length / 10;
        shade = shade * (10 - spot[1]) / 10;
        return spot[2] > 0 && shade > spot[2] ? spot[2] : shade;
    }

    /** Everybody's heights without steps, the giant's too. */
    private long[] heights(Integer[] hats, long giant) {
        long[] made = new long[all("beggar").size() + (giant > 0 ? 1 : 0)];
        for (int g = 0; g < all("beggar").size(); g++) {
            made[g] = all("beggar").get(g)[0] + (hats[g] < 0 ? 0 : all("hat").get(hats[g])[0]);
        }
        if (giant > 0) {
            made[made.length - 1] = giant;
        }
        return made;
    }

    private long[] shades(int b, long onDay, Integer[] spots, long[] heights) {
        long[] made = new long[heights.length];
        for (int g = 0; g < made.length; g++) {
            int s = spots[g];
            if (s < 0) {
                continue;
            }
            long tall = heights[g] + all("spot").get(s)[0];
            made[g] = alone(s, tall, length(b, onDay));
            for (int other = 0; other < made.length; other++) {
                if (spots[other] >= 0 && spots[other] == s - 1 && heights[other] + all("spot").get(s - 1)[0] > tall) {
                    made[g] = 0;
                }
            }
        }
        return made;
    }

    private long[] gifts(long[] shades, Integer[] spots) {
        long[] made = new long[shades.length];
        int longest = -1;
        for (int g = 0; g < made.length; g++) {
            made[g] = law == 0 ? shades[g] : law == 2 ? Math.min(50, shades[g]) : 0;
            if (spots[g] >= 0 && (longest < 0 || shades[g] > shades[longest])) {
                longest = g;
            }
        }
        if (law == 1 && longest >= 0) {
            made[longest] = Arrays.stream(shades).sum();
        }
        return made;
    }

    private long[] alms(int b, long onDay, Integer[] spots, Integer[] hats, long giant) {
        long[] made = gifts(shades(b, onDay, spots, heights(hats, giant)), spots);
        for (int g = 0; g < all("beggar").size(); g++) {
            made[g] -= hats[g] < 0 ? 0 : all("hat").get(hats[g])[1];
        }
        return made;
    }

    private long[] almsNow(int b) {
        return alms(b, day, spotOf, hatOf, 0);
    }

    private static int find(Integer[] row, int what) {
        return Arrays.asList(row).indexOf(what);
    }

    // ---- the calls

    int feed(int n, long bytes) {
        if (out(n, 1, 8)) {
            return Due.OUTSIDE;
        }
        if (text.length() + n > 500) {
            return Due.FULL;
        }
        for (int i = n - 1; i >= 0; i--) {
            text += (char) (bytes >> 8 * i & 255);
        }
        return text.length();
    }

    int square() {
        String fed = text;
        text = "";
        try {
            square = parse(fed);
        } catch (Fault found) {
            fault = found.place;
            return -10 - found.number;
        }
        fault = -1;
        day = 0;
        given = 0;
        spotOf = nowhere(all("beggar").size());
        hatOf = nowhere(all("beggar").size());
        purse = new long[all("beggar").size()];
        tales.clear();
        book.clear();
        Arrays.fill(images, null);
        return all("beggar").size();
    }

    int fault() {
        return fault;
    }

    int told(int what) {
        if (out(what, 0, 10)) {
            return Due.OUTSIDE;
        }
        long[] answers = {year(), all("bell").size(), all("spot").size(), all("beggar").size(), all("hat").size(),
            text.length(), day, law, given, tales.size(), book.size()};
        return (int) answers[what];
    }

    int bell(int b, int onDay) {
        if (not("bell", b)) {
            return Due.UNKNOWN;
        }
        return out(onDay, 0, 99999) ? Due.OUTSIDE : (int) length(b, onDay);
    }

    int spot(int s, int what) {
        if (not("spot", s)) {
            return Due.UNKNOWN;
        }
        if (out(what, 0, 3)) {
            return Due.OUTSIDE;
        }
        return what == 3 ? find(spotOf, s) : all("spot").get(s)[what];
    }

    int beggar(int g, int what) {
        if (not("beggar", g)) {
            return Due.UNKNOWN;
        }
        if (out(what, 0, 4)) {
            return Due.OUTSIDE;
        }
        long tall = heights(hatOf, 0)[g] + (spotOf[g] < 0 ? 0 : all("spot").get(spotOf[g])[0]);
        long[] answers = {all("beggar").get(g)[0], spotOf[g], hatOf[g], tall, purse[g]};
        return (int) answers[what];
    }

    int hat(int h, int what) {
        if (not("hat", h)) {
            return Due.UNKNOWN;
        }
        if (out(what, 0, 2)) {
            return Due.OUTSIDE;
        }
        return what == 2 ? find(hatOf, h) : all("hat").get(h)[what];
    }

    int shadow(int b, int g, int what) {
        if (not("bell", b) || not("beggar", g)) {
            return Due.UNKNOWN;
        }
        if (out(what, 0, 1)) {
            return Due.OUTSIDE;
        }
        return (int) (what == 0 ? shades(b, day, spotOf, heights(hatOf, 0)) : almsNow(b))[g];
    }

    int go(int g, int s) {
        if (not("beggar", g) || s != -1 && not("spot", s)) {
            return Due.UNKNOWN;
        }
        if (s != -1 && find(spotOf, s) >= 0 && find(spotOf, s) != g) {
            return Due.NOT;
        }
        int before = spotOf[g];
        spotOf[g] = s;
        return before;
    }

    int lend(int h, int g) {
        if (not("hat", h) || g != -1 && not("beggar", g)) {
            return Due.UNKNOWN;
        }
        if (g != -1 && hatOf[g] != -1 && hatOf[g] != h) {
            return Due.NOT;
        }
        int before = find(hatOf, h);
        if (before >= 0) {
            hatOf[before] = -1;
        }
        if (g >= 0) {
            hatOf[g] = h;
        }
        return before;
    }

    int law(int v) {
        if (out(v, 0, 2)) {
            return Due.OUTSIDE;
        }
        int before = law;
        law = v;
        return before;
    }

    private int rung(int b) {
        long[] alms = almsNow(b);
        for (int g = 0; g < alms.length; g++) {
            purse[g] = Math.min(999999999L, purse[g] + alms[g]);
        }
        long sum = Arrays.stream(gifts(shades(b, day, spotOf, heights(hatOf, 0)), spotOf)).sum();
        given = Math.min(999999999L, given + sum);
        return (int) sum;
    }

    int ring(int b) {
        return not("bell", b) ? Due.UNKNOWN : rung(b);
    }

    int day(int n) {
        if (out(n, 1, 99)) {
            return Due.OUTSIDE;
        }
        day += n;
        return (int) day;
    }

    private int draw(int n) {
        seed = (seed * 1103515245L + 12345L) % (1L << 31);
        return (int) (seed / 65536 % n);
    }

    int drift(int n) {
        if (out(n, 1, 99)) {
            return Due.OUTSIDE;
        }
        if (all("beggar").isEmpty() || all("spot").isEmpty()) {
            return Due.NOT;
        }
        int sum = 0;
        for (int i = 0; i < n; i++) {
            for (int b = 0; b < all("bell").size(); b++) {
                sum += draw(4) == 0 ? 0 : rung(b);
            }
            day++;
            int g = draw(all("beggar").size());
            int s = draw(all("spot").size());
            if (find(spotOf, s) < 0) {
                spotOf[g] = s;
            }
        }
        return sum;
    }

    /**
     * Of all rows of as many whole numbers below a bound as told, in rising order read from the left, the first of
     * greatest worth; those of worth Long.MIN_VALUE count not.
     */
    private static int[] firstOfBest(int places, int bound, ToLongFunction<int[]> worth) {
        long rows = 1;
        for (int i = 0; i < places; i++) {
            rows *= bound;
        }
        int[] best = null;
        long most = Long.MIN_VALUE;
        for (long row = 0; row < rows; row++) {
            int[] now = new int[places];
            long rest = row;
            for (int i = places - 1; i >= 0; i--) {
                now[i] = (int) (rest % bound);
                rest /= bound;
            }
            long worthNow = worth.applyAsLong(now);
            if (worthNow > most) {
                most = worthNow;
                best = now;
            }
        }
        return best;
    }

    /** Where each beggar is, if on each spot is who is told (the number of all beggars: none); null if it cannot be. */
    private Integer[] spotsBy(int[] who) {
        int beggars = all("beggar").size();
        Integer[] made = nowhere(beggars);
        int standing = 0;
        for (int s = 0; s < who.length; s++) {
            if (who[s] < beggars) {
                if (made[who[s]] >= 0) {
                    return null;
                }
                made[who[s]] = s;
                standing++;
            }
        }
        return standing == Math.min(beggars, who.length) ? made : null;
    }

    int standing(int b, int g, int s) {
        if (not("bell", b) || g != -1 && not("beggar", g) || s != -1 && not("spot", s)) {
            return Due.UNKNOWN;
        }
        int beggars = all("beggar").size();
        ToLongFunction<int[]> worth = who -> {
            Integer[] spots = spotsBy(who);
            if (spots == null) {
                return Long.MIN_VALUE;
            }
            long[] alms = alms(b, day, spots, hatOf, 0);
            return g == -1 ? Arrays.stream(alms).sum() : alms[g];
        };
        int[] best = firstOfBest(all("spot").size(), beggars + 1, worth);
        if (s == -1) {
            return (int) worth.applyAsLong(best);
        }
        return best[s] == beggars ? -1 : best[s];
    }

    int hats(int b, int h) {
        if (not("bell", b) || h != -1 && not("hat", h)) {
            return Due.UNKNOWN;
        }
        ToLongFunction<int[]> worth = whom -> {
            Integer[] hats = nowhere(all("beggar").size());
            for (int i = 0; i < whom.length; i++) {
                int g = whom[i] - 1;
                if (g >= 0 && (spotOf[g] < 0 || hats[g] >= 0)) {
                    return Long.MIN_VALUE;
                }
                if (g >= 0) {
                    hats[g] = i;
                }
            }
            return Arrays.stream(alms(b, day, spotOf, hats, 0)).sum();
        };
        int[] best = firstOfBest(all("hat").size(), all("beggar").size() + 1, worth);
        return h == -1 ? (int) worth.applyAsLong(best) : best[h] - 1;
    }

    int giant(int b, int height, int p, int what) {
        if (not("bell", b)) {
            return Due.UNKNOWN;
        }
        if (out(height, 1, 200) || out(p, 0, 999) || out(what, 0, 1)) {
            return Due.OUTSIDE;
        }
        long before = Arrays.stream(almsNow(b)).sum();
        int where = -1;
        long most = 0;
        for (int s = all("spot").size() - 1; s >= 0; s--) {
            if (find(spotOf, s) < 0) {
                Integer[] spots = Arrays.copyOf(spotOf, spotOf.length + 1);
                spots[spotOf.length] = s;
                long more = Arrays.stream(alms(b, day, spots, hatOf, height)).sum() - before - p;
                if (where < 0 || more >= most) {
                    where = s;
                    most = more;
                }
            }
        }
        return what == 0 ? where : (int) most;
    }

    private long lack(int b, int v) {
        return Arrays.stream(almsNow(b)).map(alms -> Math.max(0, v - alms)).sum();
    }

    int peace(int b, int v) {
        if (not("bell", b)) {
            return Due.UNKNOWN;
        }
        return out(v, 0, 999) ? Due.OUTSIDE : (int) lack(b, v);
    }

    int bread(int b, int loaves) {
        if (not("bell", b)) {
            return Due.UNKNOWN;
        }
        if (out(loaves, 0, 9999)) {
            return Due.OUTSIDE;
        }
        int v = 999;
        while (v >= 0 && lack(b, v) > loaves) {
            v--;
        }
        return v;
    }

    int best(int g, int what) {
        if (not("beggar", g)) {
            return Due.UNKNOWN;
        }
        if (out(what, 0, 1)) {
            return Due.OUTSIDE;
        }
        long most = Long.MIN_VALUE;
        int first = -1;
        for (int d = 0; d < year(); d++) {
            long sum = 0;
            for (int b = 0; b < all("bell").size(); b++) {
                sum += alms(b, d, spotOf, hatOf, 0)[g];
            }
            if (sum > most) {
                most = sum;
                first = d;
            }
        }
        return what == 0 ? first : (int) most;
    }

    int tell(int b, int onDay, int s, int inches) {
        if (not("bell", b) || not("spot", s)) {
            return Due.UNKNOWN;
        }
        if (out(onDay, 0, 999) || out(inches, 0, 999)) {
            return Due.OUTSIDE;
        }
        if (tales.size() == 10) {
            return Due.FULL;
        }
        tales.add(new int[] {b, onDay, s, inches});
        return tales.size();
    }

    int fits(int what) {
        if (out(what, 0, 2)) {
            return Due.OUTSIDE;
        }
        List<Integer> fitting = new ArrayList<>();
        for (int high = 1; high <= 110; high++) {
            int t = high;
            if (tales.stream().allMatch(e -> alone(e[2], t + all("spot").get(e[2])[0], length(e[0], e[1])) == e[3])) {
                fitting.add(high);
            }
        }
        if (what == 0) {
            return fitting.size();
        }
        return fitting.isEmpty() ? -1 : fitting.get(what == 1 ? 0 : fitting.size() - 1);
    }

    int write(int b, int g, int alms) {
        if (not("bell", b) || not("beggar", g)) {
            return Due.UNKNOWN;
        }
        if (out(alms, -999, 99999)) {
            return Due.OUTSIDE;
        }
        if (book.size() == 30) {
            return Due.FULL;
        }
        book.add(new int[] {b, g, alms});
        return book.size();
    }

    int tear() {
        int both = tales.size() + book.size();
        tales.clear();
        book.clear();
        return both;
    }

    int judge() {
        for (int i = 0; i < book.size(); i++) {
            int[] entry = book.get(i);
            if (almsNow(entry[0])[entry[1]] != entry[2]) {
                return i;
            }
        }
        return -1;
    }

    int seed(int v) {
        if (v < 0) {
            return Due.OUTSIDE;
        }
        int before = (int) seed;
        seed = v;
        return before;
    }

    int keep(int i) {
        if (out(i, 0, 1)) {
            return Due.UNKNOWN;
        }
        images[i] = new Image(day, spotOf.clone(), hatOf.clone(), purse.clone(), given, law, seed);
        return 1;
    }

    int goBack(int i) {
        if (out(i, 0, 1)) {
            return Due.UNKNOWN;
        }
        Image image = images[i];
        if (image == null) {
            return Due.NOT;
        }
        day = image.day();
        spotOf = image.spots().clone();
        hatOf = image.hats().clone();
        purse = image.purses().clone();
        given = image.given();
        law = image.law();
        seed = image.seed();
        return 1;
    }
}
