/** BY DRAWS and IMAGES in the document's part 3, and promises 16 and 28 to 30: a test for each sentence that names a bound. */
public final class DrawBoundsTest {
    private static final long A = 1103515245L, C = 12345L, ROUND = 2147483648L;

    public static void main(String[] args) {
        theSeed();
        leftOverBy2ToThe31();
        drawOf4();
        drawsOfADay();
        goesIfItIsFree();
        aDayMoreBehindTheBells();
        manyDaysAreDayByDay();
        twoImages();
        imagesKeep();
        imagesAndSquares();
        Due.end();
    }

    private static long next(long seed) {
        return (seed * A + C) % ROUND;
    }

    /** A seed whose next one is the one told: A is odd, so that it has an inverse by 2 to the 31. */
    private static int ahead(long wanted) {
        long inverse = 1;
        for (int i = 0; i < 6; i++) {
            inverse = (inverse * (2 - A * inverse % ROUND)) % ROUND;
        }
        return (int) Math.floorMod((wanted - C) % ROUND * (Math.floorMod(inverse, ROUND) % ROUND), ROUND);
    }

    /** "THE SEED becomes v (0 .. 2147483647): what it was", "(0 at first ...)" */
    private static void theSeed() {
        ShadowAlms x = new ShadowAlms();
        int[] seeds = {0, 1, 2147483646, 2147483647, 0};
        int before = 0;
        for (int seed : seeds) {
            Due.is("seed(" + seed + ")", x.seed(seed), before);
            before = seed;
        }
        Due.is("seed(-1)", x.seed(-1), Due.OUTSIDE);
        Due.is("it stays", x.seed(5), 0);
    }

    /** "each DRAW it becomes it times 1103515245 and 12345, left over by 2 to the 31" */
    private static void leftOverBy2ToThe31() {
        // without bells a day has two draws
        for (int seed : new int[] {0, 1, 2, 65535, 65536, 1073741823, 1073741824, 2147483646, 2147483647, ahead(0), ahead(2147483647)}) {
            ShadowAlms x = Due.squareOf("spot 0 0 0;beggar 1;");
            x.seed(seed);
            x.drift(1);
            Due.is("two draws from " + seed, x.seed(0), next(next(seed)));
        }
        Due.is("the one ahead of 0", next(ahead(0)), 0);
        Due.is("the one ahead of the greatest", next(ahead(2147483647)), 2147483647);
    }

    /** "the DRAW of n is it / 65536, left over by n", "for each BELL in order a DRAW of 4: on 0 there are clouds" */
    private static void drawOf4() {
        // what the seed becomes: the last of a draw and the first of the next, and the greatest
        long[] becomes = {0, 65535, 65536, 131071, 131072, 196607, 196608, 262143, 262144, 327679, 327680, 2147418111, 2147418112, 2147483647};
        for (long seed : becomes) {
            long draw = seed / 65536 % 4;
            ShadowAlms x = Due.squareOf("bell 10 0;spot 0 0 0;beggar 7;beggar 3;hat 1 5;");
            x.go(0, 0);
            x.lend(0, 1);
            x.seed(ahead(seed));
            Due.is("the bell by a draw of " + draw, x.drift(1), draw == 0 ? 0 : 7);
            Due.is("nobody has, or he has", x.beggar(0, 4), draw == 0 ? 0 : 7);
            Due.is("nobody pays, or he pays", x.beggar(1, 4), draw == 0 ? 0 : -5);
            Due.is("GIVEN", x.told(8), draw == 0 ? 0 : 7);
            Due.is("THE DAY", x.told(6), 1);
        }
    }

    /** "for each BELL in order a DRAW of 4 ...; then ... a DRAW of BEGGARS and a DRAW of SPOTS" */
    private static void drawsOfADay() {
        for (int bells = 0; bells <= 4; bells++) {
            String text = "spot 0 0 0;beggar 1;";
            for (int b = 0; b < bells; b++) {
                text += "bell " + (1 + b) + "0 0;";
            }
            ShadowAlms x = Due.squareOf(text);
            x.go(0, 0);
            for (int day = 0; day < 20; day++) {
                long seed = x.seed(0);
                x.seed((int) seed);
                int given = 0;
                for (int b = 0; b < bells; b++) {
                    seed = next(seed);
                    given += seed / 65536 % 4 == 0 ? 0 : 1 + b;
                }
                Due.is(bells + " bells, what is given", x.drift(1), given);
                seed = next(next(seed));
                Due.is(bells + " bells, THE SEED", x.seed((int) seed), seed);
            }
        }
    }

    /** "by a DRAW of BEGGARS and a DRAW of SPOTS that one goes there, if it is free" */
    private static void goesIfItIsFree() {
        for (int beggars = 1; beggars <= 6; beggars++) {
            ShadowAlms x = Due.squareOf("spot 0 0 0;".repeat(7 - beggars) + "beggar 1;".repeat(beggars));
            int[] where = new int[beggars];
            java.util.Arrays.fill(where, Due.NONE);
            long seed = 0;
            for (int day = 0; day < 40; day++) {
                x.drift(1);
                seed = next(seed);
                int g = (int) (seed / 65536 % beggars);
                seed = next(seed);
                int s = (int) (seed / 65536 % (7 - beggars));
                boolean free = true;
                for (int other : where) {
                    free &= other != s;
                }
                where[g] = free ? s : where[g];
                Due.is(beggars + " beggars, day " + day + ": " + g + " goes to " + s, x.beggar(g, 1), where[g]);
                Due.is(beggars + " beggars, day " + day + ": who is on " + s, where[x.spot(s, 3)], s);
            }
        }
        // all spots are taken: nobody goes
        ShadowAlms full = Due.squareOf("spot 0 0 0;spot 0 0 0;beggar 1;beggar 1;beggar 1;");
        full.go(2, 0);
        full.go(0, 1);
        full.drift(99);
        Due.is("2 is where he was", full.beggar(2, 1), 0);
        Due.is("0 is where he was", full.beggar(0, 1), 1);
        Due.is("1 is nowhere", full.beggar(1, 1), Due.NONE);
    }

    /** "a day: for each BELL ...; then THE DAY is one more": the bells are those of the day that goes */
    private static void aDayMoreBehindTheBells() {
        ShadowAlms x = Due.squareOf("year 2;bell 10 9;spot 0 0 0;beggar 10;");
        x.go(0, 0);
        x.seed(ahead(65536));
        Due.is("on day 0", x.drift(1), 10);
        x.seed(ahead(65536));
        Due.is("on day 1", x.drift(1), 19);
        x.seed(ahead(65536));
        Due.is("on day 2, a year on", x.drift(1), 10);
        // who comes by the draws of a day is not there for its bells
        ShadowAlms late = Due.squareOf("bell 10 0;spot 0 0 0;beggar 10;");
        late.seed(ahead(65536));
        Due.is("nobody stands yet", late.drift(1), 0);
        Due.is("now he does", late.beggar(0, 1), 0);
        late.seed(ahead(65536));
        Due.is("and has", late.drift(1), 10);
    }

    /** "n days (1 .. 99) BY DRAWS: what is given in them" */
    private static void manyDaysAreDayByDay() {
        for (int n : new int[] {1, 2, 98, 99}) {
            String text = "year 9;bell 10 3;bell 4 1;spot 2 0 0;spot 0 3 0;spot 0 0 9;beggar 20;beggar 30;hat 3 2;";
            ShadowAlms whole = Due.squareOf(text);
            ShadowAlms single = Due.squareOf(text);
            whole.lend(0, 1);
            single.lend(0, 1);
            int sum = 0;
            for (int i = 0; i < n; i++) {
                sum += single.drift(1);
            }
            Due.is("drift(" + n + ")", whole.drift(n), sum);
            Due.is("THE DAY", whole.told(6), n);
            Due.is("GIVEN", whole.told(8), sum);
            Due.is("THE SEED", whole.seed(0), single.seed(0));
            for (int g = 0; g < 2; g++) {
                Due.is("SPOT", whole.beggar(g, 1), single.beggar(g, 1));
                Due.is("PURSE", whole.beggar(g, 4), single.beggar(g, 4));
            }
        }
    }

    /** "IMAGES 0, 1", "NOT: it was not kept" */
    private static void twoImages() {
        ShadowAlms x = Due.squareOf("beggar 1;");
        for (int i = 0; i < 2; i++) {
            Due.is("goBack(" + i + ") ahead of keep", x.goBack(i), Due.NOT);
        }
        x.day(1);
        Due.is("keep(0)", x.keep(0), 1);
        Due.is("image 1 is not kept by it", x.goBack(1), Due.NOT);
        x.day(1);
        Due.is("keep(1)", x.keep(1), 1);
        x.day(1);
        Due.is("goBack(0)", x.goBack(0), 1);
        Due.is("THE DAY of 0", x.told(6), 1);
        Due.is("goBack(1)", x.goBack(1), 1);
        Due.is("THE DAY of 1", x.told(6), 2);
        x.day(1);
        Due.is("goBack(1) again", x.goBack(1), 1);
        Due.is("THE DAY of 1 again", x.told(6), 2);
        Due.is("keep(0) anew", x.keep(0), 1);
        x.day(9);
        x.goBack(0);
        Due.is("THE DAY of 0 anew", x.told(6), 2);
        Due.is("keep(-1)", x.keep(-1), Due.UNKNOWN);
        Due.is("keep(2)", x.keep(2), Due.UNKNOWN);
        Due.is("goBack(-1)", x.goBack(-1), Due.UNKNOWN);
        Due.is("goBack(2)", x.goBack(2), Due.UNKNOWN);
    }

    /** "keep THE DAY, where all stand, HATS, PURSES, what was GIVEN, LAW, THE SEED" */
    private static void imagesKeep() {
        ShadowAlms x = Due.squareOf("bell 10 0;" + "spot 0 0 0;".repeat(6) + "beggar 9;".repeat(6) + "hat 1 1;".repeat(4));
        x.keep(1);
        for (int g = 0; g < 6; g++) {
            x.go(g, 5 - g);
            x.lend(Math.min(g, 3), Math.min(g, 3) + 2);
        }
        x.day(7);
        x.ring(0);
        x.law(2);
        x.seed(2147483647);
        int given = x.told(8);
        int[] purses = new int[6];
        for (int g = 0; g < 6; g++) {
            purses[g] = x.beggar(g, 4);
        }
        x.keep(0);
        for (int i = 0; i < 2; i++) {
            x.goBack(1 - i);
            boolean first = i == 0;
            Due.is("THE DAY", x.told(6), first ? 0 : 7);
            Due.is("LAW", x.told(7), first ? 0 : 2);
            Due.is("GIVEN", x.told(8), first ? 0 : given);
            int seed = x.seed(0);
            Due.is("THE SEED", seed, first ? 0 : 2147483647);
            for (int g = 0; g < 6; g++) {
                Due.is("SPOT of " + g, x.beggar(g, 1), first ? Due.NONE : 5 - g);
                Due.is("HAT of " + g, x.beggar(g, 2), first || g < 2 ? Due.NONE : g - 2);
                Due.is("PURSE of " + g, x.beggar(g, 4), first ? 0 : purses[g]);
            }
        }
    }

    /** "IMAGES are gone" by square(); by one with a fault "all else is as it was" */
    private static void imagesAndSquares() {
        ShadowAlms x = Due.squareOf("beggar 1;");
        x.day(5);
        x.keep(0);
        x.keep(1);
        Due.feed(x, "lamp");
        Due.is("a fault", x.square(), -11);
        x.day(5);
        Due.is("image 0 is there", x.goBack(0), 1);
        Due.is("THE DAY of it", x.told(6), 5);
        Due.is("image 1 is there", x.goBack(1), 1);
        Due.is("an empty text", x.square(), 0);
        Due.is("image 0 is gone", x.goBack(0), Due.NOT);
        Due.is("image 1 is gone", x.goBack(1), Due.NOT);
        Due.is("keep of nothing", x.keep(1), 1);
        Due.is("image 1 is there again", x.goBack(1), 1);
        Due.is("image 0 is still gone", x.goBack(0), Due.NOT);
    }
}
