import java.util.Random;

/** Long runs of calls by draws, each answer held against the Model; and calls with the wildest arguments. */
public final class ModelTest {
    private static final int TEXTS = 3000;
    private static final int RUNS = 600;
    private static final int CALLS = 300;
    private static final int[] WILD = {Integer.MIN_VALUE, -1000000001, -1000, -2, -1, 0, 1, 2, 3, 4, 5, 6, 7, 11, 99, 100, 999, 1000,
        9999, 10000, 99999, 100000, 1000000000, Integer.MAX_VALUE};

    private static Random random;
    private static ShadowAlms real;
    private static Model model;
    private static String last;

    public static void main(String[] args) {
        for (int run = 0; run < TEXTS; run++) {
            begin(run);
            tellSquare(true);
        }
        for (int run = 0; run < RUNS; run++) {
            begin(run);
            tellSquare(run % 5 == 0);
            for (int i = 0; i < CALLS; i++) {
                call(run);
            }
        }
        Due.end();
    }

    private static void begin(int run) {
        random = new Random(run);
        real = new ShadowAlms();
        model = new Model();
    }

    private static int upTo(int n) {
        return random.nextInt(n + 1);
    }

    private static int of(int... choice) {
        return choice[random.nextInt(choice.length)];
    }

    /** Mostly a number that there may be, now and then one at or beyond an edge. */
    private static int near(int least, int greatest) {
        int way = upTo(19);
        if (way == 0) {
            return WILD[random.nextInt(WILD.length)];
        }
        return way == 1 ? of(least - 1, least, greatest, greatest + 1) : least + random.nextInt(greatest - least + 1);
    }

    private static void clause(StringBuilder text, String word, int... numbers) {
        text.append(" ".repeat(upTo(9) == 0 ? 2 : 0)).append(word);
        for (int number : numbers) {
            text.append(upTo(9) == 0 ? "  " : " ").append(number);
        }
        text.append(upTo(9) == 0 ? " ;" : ";");
    }

    private static String goodText() {
        StringBuilder text = new StringBuilder();
        if (upTo(3) > 0) {
            clause(text, "year", 1 + upTo(of(3, 12, 59)));
        }
        int[] left = {1 + upTo(3), upTo(of(3, 6)), upTo(of(3, 6)), upTo(4)};
        boolean small = upTo(1) == 0;
        for (int i = 0; i < 60 && text.length() < 460; i++) {
            int kind = upTo(3);
            if (left[kind]-- > 0) {
                switch (kind) {
                    case 0: clause(text, "bell", upTo(of(20, 99)), upTo(9)); break;
                    case 1: clause(text, "spot", upTo(of(3, 20)), upTo(of(0, 3, 9)), of(0, upTo(30), upTo(200))); break;
                    case 2: clause(text, "beggar", 1 + upTo(small ? 5 : 89)); break;
                    default: clause(text, "hat", 1 + upTo(of(3, 19)), upTo(of(2, 10, 50))); break;
                }
            }
        }
        return text.toString();
    }

    /** A good text with some bytes put in, taken out or changed. */
    private static String spoiled(String text) {
        String signs = "; 0123456789abeghlnorspty" + (char) 0 + (char) 96 + (char) 123 + (char) 47 + (char) 58 + (char) 255 + "A";
        String[] pieces = {"year 5;", "bell 1 1;", "spot 1 1 1;", "beggar 4;", "hat 3 3;", "1000", "0", "  "};
        StringBuilder made = new StringBuilder(text);
        for (int i = upTo(3); i >= 0; i--) {
            int at = upTo(made.length());
            int way = upTo(4);
            if (way == 0) {
                made.insert(at, signs.charAt(random.nextInt(signs.length())));
            } else if (way == 1) {
                made.insert(at, pieces[random.nextInt(pieces.length)]);
            } else if (way == 2 && at < made.length()) {
                made.setCharAt(at, signs.charAt(random.nextInt(signs.length())));
            } else if (way == 3 && at < made.length()) {
                made.deleteCharAt(at);
            } else if (upTo(3) == 0) {
                made.setLength(at);
            }
        }
        return made.toString();
    }

    private static void check(String name, int got, int want) {
        Due.is(name, got, want);
    }

    private static void tellSquare(boolean spoil) {
        String text = spoil ? spoiled(goodText()) : goodText();
        int at = 0;
        while (at < text.length()) {
            int n = Math.min(text.length() - at, 1 + upTo(7));
            long bytes = random.nextLong();
            for (int i = 0; i < n; i++) {
                bytes = bytes << 8 | text.charAt(at++) & 255;
            }
            check("feed of '" + text + "'", real.feed(n, bytes), model.feed(n, bytes));
        }
        check("square of '" + text + "'", real.square(), model.square());
        check("fault of '" + text + "'", real.fault(), model.fault());
    }

    private static void call(int run) {
        int beggars = Math.max(0, model.told(3) - 1);
        int spots = Math.max(0, model.told(2) - 1);
        int b = near(0, Math.max(0, model.told(1) - 1));
        int g = near(0, beggars);
        int s = near(0, spots);
        int h = near(0, Math.max(0, model.told(4) - 1));
        int gOrNone = upTo(5) == 0 ? -1 : g;
        int sOrNone = upTo(5) == 0 ? -1 : s;
        int hOrNone = upTo(5) == 0 ? -1 : h;
        int kind = upTo(37);
        last = "run " + run + ", call of kind " + kind + " (" + b + ", " + g + ", " + s + ", " + h + ")";
        if (kind < 16) {
            look(kind, b, g, s, h);
        } else if (kind < 27) {
            act(kind, b, g, sOrNone, h, gOrNone);
        } else {
            tryOut(kind, b, gOrNone, sOrNone, hOrNone);
        }
    }

    private static void look(int kind, int b, int g, int s, int h) {
        int what = near(0, 4);
        int day = near(0, of(30, 99999));
        switch (kind) {
            case 0: check(last, real.told(what + 3), model.told(what + 3)); break;
            case 1: check(last, real.told(what), model.told(what)); break;
            case 2: check(last, real.bell(b, day), model.bell(b, day)); break;
            case 3: case 4: check(last, real.spot(s, what), model.spot(s, what)); break;
            case 5: case 6: case 7: check(last, real.beggar(g, what), model.beggar(g, what)); break;
            case 8: check(last, real.hat(h, what), model.hat(h, what)); break;
            case 9: case 10: case 11: check(last, real.shadow(b, g, what / 3), model.shadow(b, g, what / 3)); break;
            case 12: check(last, real.fits(what / 2), model.fits(what / 2)); break;
            case 13: check(last, real.judge(), model.judge()); break;
            case 14: check(last, real.fault(), model.fault()); break;
            default: sometimesAnew(); break;
        }
    }

    private static void sometimesAnew() {
        if (upTo(9) == 0) {
            tellSquare(upTo(1) == 0);
        } else {
            int n = near(1, 2);
            check(last, real.feed(n, 0x20202020L), model.feed(n, 0x20202020L));
        }
    }

    private static void act(int kind, int b, int g, int s, int h, int gOrNone) {
        int n = near(1, of(3, 20, 99));
        int law = near(0, 2);
        int i = near(0, 1);
        int v = of(upTo(1000), random.nextInt());
        switch (kind) {
            case 16: case 17: case 18: check(last, real.go(g, s), model.go(g, s)); break;
            case 19: case 20: check(last, real.lend(h, gOrNone), model.lend(h, gOrNone)); break;
            case 21: check(last, real.law(law), model.law(law)); break;
            case 22: check(last, real.ring(b), model.ring(b)); break;
            case 23: check(last, real.day(n), model.day(n)); break;
            case 24: check(last, real.drift(n), model.drift(n)); break;
            case 25: check(last, real.seed(v), model.seed(v)); break;
            default: keepOrGoBack(i); break;
        }
    }

    private static void keepOrGoBack(int i) {
        if (upTo(2) == 0) {
            check(last, real.keep(i), model.keep(i));
        } else {
            check(last, real.goBack(i), model.goBack(i));
        }
    }

    private static void tryOut(int kind, int b, int g, int s, int h) {
        int what = near(0, 1);
        int height = near(1, 200);
        int p = near(0, 999);
        int v = near(0, of(20, 200, 999));
        int loaves = near(0, of(20, 500, 9999));
        switch (kind) {
            case 27: tryStanding(b, g, s); break;
            case 28: check(last, real.hats(b, h), model.hats(b, h)); break;
            case 29: case 30: check(last, real.giant(b, height, p, what), model.giant(b, height, p, what)); break;
            case 31: check(last, real.peace(b, v), model.peace(b, v)); break;
            case 32: check(last, real.bread(b, loaves), model.bread(b, loaves)); break;
            case 33: check(last, real.best(g, what), model.best(g, what)); break;
            case 34: case 35: tellAShadow(b, s); break;
            case 36: writeAnEntry(b, g); break;
            default: check(last, upTo(6) == 0 ? real.tear() - model.tear() : 0, 0); break;
        }
    }

    /** The model goes through 7 to the 6th rows on the greatest squares: seldom is enough there. */
    private static void tryStanding(int b, int g, int s) {
        if (Math.pow(model.told(3) + 1, model.told(2)) < 20000 || upTo(9) == 0) {
            check(last, real.standing(b, g, s), model.standing(b, g, s));
        }
    }

    private static void tellAShadow(int b, int s) {
        int day = near(0, 999);
        int inches = near(0, of(9, 99, 999));
        check(last, real.tell(b, day, s, inches), model.tell(b, day, s, inches));
    }

    private static void writeAnEntry(int b, int g) {
        int so = model.shadow(b, g, 1);
        int alms = upTo(3) == 0 || so < -1000 ? near(-999, 99999) : so;
        check(last, real.write(b, g, alms), model.write(b, g, alms));
    }
}
