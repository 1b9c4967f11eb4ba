/** The document's part 3, TRIED, and promises 17 to 27: a test for each sentence that names a bound. */
public final class TriedBoundsTest {
    public static void main(String[] args) {
        asManyAsCanStand();
        standingOfNobody();
        likeStandings();
        standingForOne();
        sixOnSix();
        hatsToWhoStands();
        likeHats();
        fourHatsForSix();
        giantsAtTheirBounds();
        giantOnAFreeSpot();
        giantsBelowNothing();
        likeGiants();
        lacking();
        breadIsEnough();
        breadAtItsBounds();
        bestOfAYear();
        bestOfLikeDays();
        tenTold();
        toldAtItsBounds();
        fittingFrom1To110();
        thirtyEntries();
        theFirstWrong();
        tornBoth();
        Due.end();
    }

    private static void standingIs(String name, ShadowAlms x, int g, int worth, int... who) {
        Due.is(name + ": the sum", x.standing(0, g, Due.NONE), worth);
        for (int s = 0; s < who.length; s++) {
            Due.is(name + ": on " + s, x.standing(0, g, s), who[s]);
        }
    }

    /** "which BEGGAR on which SPOT (as many as can stand; HATS as they are)" */
    private static void asManyAsCanStand() {
        // a tall one on the first spot takes all from the next, and has but an inch himself: yet all must stand
        String spots = "spot 20 0 1;spot 0 0 0;";
        standingIs("one for two", Due.squareOf("bell 10 0;" + spots + "beggar 9;"), Due.NONE, 9, Due.NONE, 0);
        standingIs("two for two", Due.squareOf("bell 10 0;" + spots + "beggar 9;beggar 9;"), Due.NONE, 1, 0, 1);
        standingIs("three for two", Due.squareOf("bell 10 0;" + spots + "beggar 9;beggar 9;beggar 40;"), Due.NONE, 41, 0, 2);
        standingIs("two for three", Due.squareOf("bell 10 0;" + spots + "spot 0 0 0;beggar 9;beggar 9;"), Due.NONE, 18, Due.NONE, 0, 1);
        // who does not stand pays for his hat as it is
        ShadowAlms x = Due.squareOf("bell 10 0;spot 0 0 0;beggar 9;beggar 9;hat 1 2;");
        x.lend(0, 0);
        standingIs("the one with the hat", x, Due.NONE, 8, 0);
        x = Due.squareOf("bell 10 0;spot 0 0 9;beggar 9;beggar 9;hat 1 2;");
        x.lend(0, 1);
        standingIs("the one without", x, Due.NONE, 7, 0);
    }

    private static void standingOfNobody() {
        standingIs("no BEGGARS", Due.squareOf("bell 10 0;" + "spot 0 0 0;".repeat(6)), Due.NONE, 0,
            Due.NONE, Due.NONE, Due.NONE, Due.NONE, Due.NONE, Due.NONE);
        standingIs("no SPOTS", Due.squareOf("bell 10 0;beggar 9;"), Due.NONE, 0);
        standingIs("no SPOTS, for one", Due.squareOf("bell 10 0;beggar 9;"), 0, 0);
        standingIs("neither", Due.squareOf("bell 10 0;"), Due.NONE, 0);
        Due.is("no SPOTS, on 0", Due.squareOf("bell 10 0;beggar 9;").standing(0, 0, 0), Due.UNKNOWN);
        ShadowAlms x = Due.squareOf("bell 10 0;beggar 9;hat 1 50;");
        x.lend(0, 0);
        standingIs("no SPOTS, a HAT", x, Due.NONE, -50);
        standingIs("no SPOTS, a HAT, for one", x, 0, -50);
    }

    /** "of like ones the first (SPOT by SPOT the lesser BEGGAR, none behind all)" */
    private static void likeStandings() {
        standingIs("all like", Due.squareOf("bell 10 0;" + "spot 0 0 0;".repeat(3) + "beggar 9;".repeat(6)), Due.NONE, 27, 0, 1, 2);
        standingIs("without shadows", Due.squareOf("bell 0 0;" + "spot 0 0 0;".repeat(3) + "beggar 9;beggar 8;"), Due.NONE, 0,
            0, 1, Due.NONE);
        standingIs("six spots for one", Due.squareOf("bell 10 0;" + "spot 0 0 0;".repeat(6) + "beggar 9;"), Due.NONE, 9,
            0, Due.NONE, Due.NONE, Due.NONE, Due.NONE, Due.NONE);
        standingIs("the last of six", Due.squareOf("bell 10 0;" + "spot 0 0 8;".repeat(5) + "spot 0 0 9;beggar 9;"), Due.NONE, 9,
            Due.NONE, Due.NONE, Due.NONE, Due.NONE, Due.NONE, 0);
        // one inch more is more, though it comes last
        standingIs("one inch more", Due.squareOf("bell 10 0;spot 0 0 0;beggar 9;beggar 9;beggar 10;"), Due.NONE, 10, 2);
    }

    /** "for one BEGGAR: that by which his is greatest (of like ones likewise)" */
    private static void standingForOne() {
        ShadowAlms x = Due.squareOf("bell 10 0;spot 0 0 0;spot 0 0 0;beggar 9;beggar 9;beggar 10;");
        standingIs("for 0", x, 0, 9, 0, 1);
        standingIs("for 1", x, 1, 9, 0, 1);
        standingIs("for 2", x, 2, 10, 0, 2);
        x.law(1);
        standingIs("for 0 by law 1", x, 0, 18, 0, 1);
        // beside 0 the least of like ones has all, beside 2 the longer one: 1 has nothing anyhow
        standingIs("for 1 by law 1", x, 1, 0, 0, 1);
        standingIs("for 2 by law 1", x, 2, 19, 0, 2);
        ShadowAlms none = Due.squareOf("bell 0 0;spot 0 0 0;beggar 9;beggar 9;");
        standingIs("who has nothing anyhow", none, 1, 0, 0);
        ShadowAlms hat = Due.squareOf("bell 1 0;spot 0 0 0;beggar 9;beggar 9;hat 1 50;");
        hat.lend(0, 1);
        standingIs("one inch for 50", hat, 1, -49, 1);
    }

    private static void sixOnSix() {
        // rising from the door on, none is in the shade of another; the beggars are told the other way round
        ShadowAlms x = Due.squareOf("bell 10 0;" + "spot 0 0 0;".repeat(6) + "beggar 60;beggar 50;beggar 40;beggar 30;beggar 20;beggar 10;");
        standingIs("six on six", x, Due.NONE, 210, 5, 4, 3, 2, 1, 0);
        standingIs("six on six for 0", x, 0, 60, 0, 1, 2, 3, 4, 5);
        x.law(1);
        standingIs("six on six for 0 by law 1", x, 0, 210, 5, 4, 3, 2, 1, 0);
        standingIs("six on six for 5 by law 1", x, 5, 0, 0, 1, 2, 3, 4, 5);
        x.law(2);
        standingIs("six on six by law 2", x, Due.NONE, 200, 5, 4, 3, 2, 1, 0);
    }

    private static void hatsAre(String name, ShadowAlms x, int worth, int... whom) {
        Due.is(name + ": the sum", x.hats(0, Due.NONE), worth);
        for (int h = 0; h < whom.length; h++) {
            Due.is(name + ": hat " + h, x.hats(0, h), whom[h]);
        }
    }

    /** "(each HAT to one who stands, or to nobody)" */
    private static void hatsToWhoStands() {
        ShadowAlms x = Due.squareOf("bell 10 0;spot 0 0 0;spot 0 0 0;beggar 9;beggar 9;hat 5 0;hat 4 0;");
        hatsAre("nobody stands", x, 0, Due.NONE, Due.NONE);
        x.lend(0, 0);
        hatsAre("nobody stands, one is lent", x, 0, Due.NONE, Due.NONE);
        x.go(1, 1);
        hatsAre("one stands", x, 14, 1, Due.NONE);
        x.go(0, 0);
        hatsAre("both stand", x, 27, 1, 0);
        Due.is("it is lent as it was", x.hat(0, 2), 0);
        ShadowAlms none = Due.squareOf("bell 10 0;spot 0 0 0;beggar 9;");
        none.go(0, 0);
        hatsAre("no HATS", none, 9);
        Due.is("no HATS, hat 0", none.hats(0, 0), Due.UNKNOWN);
        hatsAre("no BEGGARS", Due.squareOf("bell 10 0;spot 0 0 0;hat 5 0;"), 0, Due.NONE);
        hatsAre("no SPOTS", Due.squareOf("bell 10 0;beggar 1;hat 5 0;"), 0, Due.NONE);
    }

    /** "of like ones the first (HAT by HAT: nobody, then BEGGARS rising)" */
    private static void likeHats() {
        int[] cost = {4, 5, 6};
        int[] whom = {0, Due.NONE, Due.NONE};
        for (int i = 0; i < cost.length; i++) {
            ShadowAlms x = Due.squareOf("bell 10 0;spot 0 0 0;spot 0 9 0;spot 0 0 0;beggar 9;beggar 9;hat 5 " + cost[i] + ";");
            x.go(0, 0);
            x.go(1, 2);
            hatsAre("5 inches for " + cost[i], x, i == 0 ? 19 : 18, whom[i]);
        }
        ShadowAlms x = Due.squareOf("bell 10 0;spot 0 0 0;spot 0 9 0;spot 0 0 0;beggar 9;beggar 9;" + "hat 5 4;".repeat(4));
        x.go(0, 2);
        x.go(1, 0);
        hatsAre("four like hats for two", x, 20, Due.NONE, Due.NONE, 0, 1);
        x.go(0, Due.NONE);
        hatsAre("four like hats for one", x, 10, Due.NONE, Due.NONE, Due.NONE, 1);
    }

    private static void fourHatsForSix() {
        ShadowAlms x = Due.squareOf("bell 10 0;" + "spot 0 0 0;".repeat(6) + "beggar 9;".repeat(6) + "hat 1 0;hat 2 0;hat 3 0;hat 4 0;");
        for (int g = 0; g < 6; g++) {
            x.go(g, g);
        }
        // the bare ones in front, then hats rising towards the end of the row
        hatsAre("four hats for six", x, 64, 2, 3, 4, 5);
        for (int g = 0; g < 6; g++) {
            x.go(g, Due.NONE);
        }
        for (int g = 0; g < 6; g++) {
            x.go(g, 5 - g);
        }
        hatsAre("four hats for six the other way", x, 64, 3, 2, 1, 0);
    }

    private static void giantIs(String name, ShadowAlms x, int height, int p, int where, int worth) {
        Due.is(name + ": the SPOT", x.giant(0, height, p, 0), where);
        Due.is(name + ": what it is", x.giant(0, height, p, 1), worth);
    }

    /** "GIANT of height g (1 .. 200) hired for p", "(p 0 .. 999)" */
    private static void giantsAtTheirBounds() {
        ShadowAlms x = Due.squareOf("year 60;bell 10 0;bell 99 9;spot 20 0 0;");
        giantIs("1 high", x, 1, 0, 0, 21);
        giantIs("200 high", x, 200, 0, 0, 220);
        giantIs("1 high for 999", x, 1, 999, 0, -978);
        giantIs("200 high for 999", x, 200, 999, 0, -779);
        x.day(30);
        Due.is("the longest of all giants", x.giant(1, 200, 0, 1), 8118);
        x.law(2);
        Due.is("but 50 by law 2", x.giant(1, 200, 0, 1), 50);
    }

    /** "he stands on a free SPOT, as a BEGGAR more", "NONE: no free SPOT", "(0 without a free SPOT)" */
    private static void giantOnAFreeSpot() {
        giantIs("no SPOTS", Due.squareOf("bell 10 0;beggar 9;"), 100, 5, Due.NONE, 0);
        giantIs("no SPOTS, no BEGGARS", Due.squareOf("bell 10 0;"), 100, 5, Due.NONE, 0);
        ShadowAlms x = Due.squareOf("bell 10 0;" + "spot 0 0 0;".repeat(6) + "beggar 9;".repeat(6));
        giantIs("all are free", x, 9, 0, 0, 9);
        for (int g = 0; g < 5; g++) {
            x.go(g, g);
            giantIs("free from " + (g + 1) + " on", x, 9, 0, g + 1, 9);
        }
        giantIs("the last one is free", x, 200, 1, 5, 199);
        x.go(5, 5);
        giantIs("none is free", x, 200, 1, Due.NONE, 0);
        x.go(0, Due.NONE);
        giantIs("the first one is free", x, 9, 1, 0, 8);
        giantIs("one more than the next one", x, 10, 1, 0, 0);
        Due.is("six BEGGARS are six", x.told(3), 6);
        Due.is("he is not there", x.spot(0, 3), Due.NONE);
        x.law(1);
        giantIs("by law 1", x, 9, 1, 0, 8);
    }

    /** "what all together have more by it (his ALMS too; may be below 0) less p" */
    private static void giantsBelowNothing() {
        ShadowAlms x = Due.squareOf("bell 10 0;spot 0 0 1;spot 0 0 0;beggar 9;hat 1 4;");
        x.go(0, 1);
        giantIs("as tall as the next one", x, 9, 0, 0, 1);
        giantIs("taller", x, 10, 0, 0, -8);
        giantIs("taller, for 1", x, 10, 1, 0, -9);
        x.lend(0, 0);
        giantIs("as tall as his hat", x, 10, 0, 0, 1);
        giantIs("worth what he is paid", x, 10, 1, 0, 0);
        giantIs("without a shadow", Due.squareOf("bell 0 0;spot 0 0 0;"), 200, 0, 0, 0);
        giantIs("without a shadow, for 1", Due.squareOf("bell 0 0;spot 0 0 0;"), 200, 1, 0, -1);
    }

    /** "the SPOT by which that is most; of like ones the least" */
    private static void likeGiants() {
        giantIs("like ones", Due.squareOf("bell 10 0;spot 0 0 0;spot 0 0 0;"), 9, 0, 0, 9);
        giantIs("one inch more", Due.squareOf("bell 10 0;spot 0 0 0;spot 1 0 0;spot 1 0 0;"), 9, 0, 1, 10);
        giantIs("the least loss", Due.squareOf("bell 10 0;spot 0 0 3;spot 0 0 4;spot 0 0 4;"), 9, 9, 1, -5);
    }

    /** "how much bread is to be added so that each has v (0 .. 999) at least (sum of what lacks)" */
    private static void lacking() {
        ShadowAlms x = Due.squareOf("bell 10 0;spot 0 0 0;beggar 10;beggar 5;hat 1 1;");
        x.go(0, 0);
        int[] v = {0, 1, 9, 10, 11, 999};
        int[] want = {0, 1, 9, 10, 12, 989 + 999};
        for (int i = 0; i < v.length; i++) {
            Due.is("peace of " + v[i], x.peace(0, v[i]), want[i]);
        }
        x.lend(0, 1);
        Due.is("one below 0 lacks for 0", x.peace(0, 0), 1);
        Due.is("and for 999", x.peace(0, 999), 989 + 1000);
        ShadowAlms six = Due.squareOf("bell 10 0;" + "beggar 1;".repeat(6) + "hat 1 50;".repeat(4));
        for (int h = 0; h < 4; h++) {
            six.lend(h, h);
        }
        Due.is("the most that can lack", six.peace(0, 999), 6 * 999 + 200);
        Due.is("nobody lacks", Due.squareOf("bell 1 1;").peace(0, 999), 0);
    }

    /** "the greatest v for which so much bread b (0 .. 9999) is enough (999 at most)", "(NONE: not even 0)" */
    private static void breadIsEnough() {
        ShadowAlms x = Due.squareOf("bell 10 0;spot 0 0 0;beggar 10;beggar 5;hat 1 3;");
        x.go(0, 0);
        int[] loaves = {0, 1, 9, 10, 11, 12, 13, 14};
        int[] want = {0, 1, 9, 10, 10, 11, 11, 12};
        for (int i = 0; i < loaves.length; i++) {
            Due.is("bread of " + loaves[i], x.bread(0, loaves[i]), want[i]);
        }
        x.lend(0, 1);
        Due.is("3 lack, 0 are there", x.bread(0, 0), Due.NONE);
        Due.is("3 lack, 2 are there", x.bread(0, 2), Due.NONE);
        Due.is("3 lack, 3 are there", x.bread(0, 3), 0);
        Due.is("3 lack, 4 are there", x.bread(0, 4), 1);
    }

    private static void breadAtItsBounds() {
        ShadowAlms six = Due.squareOf("bell 10 0;" + "beggar 1;".repeat(6));
        Due.is("5993 for six", six.bread(0, 5993), 998);
        Due.is("5994 for six", six.bread(0, 5994), 999);
        Due.is("5999 for six", six.bread(0, 5999), 999);
        Due.is("6000 for six", six.bread(0, 6000), 999);
        Due.is("9999 for six", six.bread(0, 9999), 999);
        Due.is("0 for six", six.bread(0, 0), 0);
        Due.is("5 for six", six.bread(0, 5), 0);
        Due.is("6 for six", six.bread(0, 6), 1);
        Due.is("0 for nobody", Due.squareOf("bell 1 1;").bread(0, 0), 999);
        // who has more than 999 anyhow needs none
        ShadowAlms rich = Due.squareOf("year 60;bell 99 9;spot 20 0 0;beggar 90;");
        rich.go(0, 0);
        rich.day(1);
        Due.is("he has more than 999", rich.shadow(0, 0, 1), 1188);
        Due.is("no bread is enough", rich.bread(0, 0), 999);
        Due.is("nothing lacks", rich.peace(0, 999), 0);
    }

    private static void bestIs(String name, ShadowAlms x, int g, int day, int worth) {
        Due.is(name + ": the day", x.best(g, 0), day);
        Due.is(name + ": how much", x.best(g, 1), worth);
    }

    /** "the day of the YEAR on which ... his ALMS at all BELLS together are greatest" */
    private static void bestOfAYear() {
        int[] years = {1, 2, 3, 4, 5, 59, 60};
        int[] middle = {0, 1, 1, 2, 2, 29, 30};
        for (int i = 0; i < years.length; i++) {
            ShadowAlms x = Due.squareOf("year " + years[i] + ";" + "bell 10 1;".repeat(4) + "spot 0 0 0;beggar 10;");
            bestIs("year of " + years[i] + ", nowhere", x, 0, 0, 0);
            x.go(0, 0);
            bestIs("year of " + years[i], x, 0, middle[i], 4 * (10 + middle[i]));
            x.day(99);
            bestIs("year of " + years[i] + ", later", x, 0, middle[i], 4 * (10 + middle[i]));
        }
        bestIs("no BELLS", Due.squareOf("spot 0 0 0;beggar 10;"), 0, 0, 0);
    }

    /** "of like ones the first" */
    private static void bestOfLikeDays() {
        ShadowAlms flat = Due.squareOf("year 60;bell 10 0;spot 0 0 0;beggar 10;beggar 9;hat 1 50;");
        flat.go(0, 0);
        flat.lend(0, 1);
        bestIs("all days alike", flat, 0, 0, 10);
        bestIs("all days alike below 0", flat, 1, 0, -50);
        ShadowAlms wall = Due.squareOf("year 60;bell 10 1;spot 0 0 13;beggar 10;");
        wall.go(0, 0);
        bestIs("the first day at the wall", wall, 0, 3, 13);
        // one's best day may be one on which another one is not yet the longest
        ShadowAlms byLaw = Due.squareOf("year 9;bell 10 5;spot 0 0 0;spot 0 0 15;beggar 10;beggar 15;");
        byLaw.go(0, 0);
        byLaw.go(1, 1);
        byLaw.law(1);
        bestIs("the one at the wall", byLaw, 1, 0, 25);
        bestIs("the one without", byLaw, 0, 4, 45);
    }

    /** "TOLD (10 at most)", "FULL (10)" */
    private static void tenTold() {
        ShadowAlms x = Due.squareOf("bell 10 0;spot 0 0 0;beggar 1;");
        for (int i = 1; i <= 10; i++) {
            Due.is("tell", x.tell(0, 0, 0, 7), i);
            Due.is("TOLD", x.told(9), i);
        }
        Due.is("an eleventh", x.tell(0, 0, 0, 8), Due.FULL);
        Due.is("TOLD then", x.told(9), 10);
        Due.is("it is not told", x.fits(0), 1);
        Due.is("THE BOOK has room", x.write(0, 0, 0), 1);
        // the tenth one counts
        x.tear();
        for (int i = 1; i <= 9; i++) {
            x.tell(0, 0, 0, 7);
        }
        Due.is("nine", x.fits(0), 1);
        x.tell(0, 0, 0, 8);
        Due.is("the tenth is another", x.fits(0), 0);
    }

    /** "on a day (0 .. 999), ... a SHADOW of so many inches (0 .. 999)" */
    private static void toldAtItsBounds() {
        ShadowAlms x = Due.squareOf("year 60;bell 99 1;bell 0 1;spot 0 0 0;spot 0 0 0;beggar 90;beggar 1;");
        // on day 12 LONG is 111, of which 90 high makes 999
        Due.is("999 inches", x.tell(0, 12, 0, 999), 1);
        Due.is("by one", x.fits(0), 1);
        Due.is("90 high", x.fits(1), 90);
        x.tear();
        Due.is("0 inches on day 0", x.tell(1, 0, 0, 0), 1);
        Due.is("by all", x.fits(0), 110);
        x.tear();
        // day 999 is day 39 of 60: d is 21
        Due.is("day 999", x.tell(1, 999, 0, 210), 1);
        Due.is("by one of 100", x.fits(1), 100);
        Due.is("alone", x.fits(2), 100);
        x.tear();
        // who stands in front now was not there
        x.go(0, 0);
        x.tell(1, 10, 1, 5);
        Due.is("alone on the square", x.fits(1), 5);
    }

    private static void fitsAre(String name, ShadowAlms x, int many, int least, int greatest) {
        Due.is(name + ": how many", x.fits(0), many);
        Due.is(name + ": the least", x.fits(1), least);
        Due.is(name + ": the greatest", x.fits(2), greatest);
    }

    /** "FITS: TALL ones, without the SPOT's STEPS, 1 to 110 ...: how many, the least, the greatest" */
    private static void fittingFrom1To110() {
        String text = "bell 10 0;bell 0 0;bell 1 0;spot 0 0 0;spot 20 0 0;spot 0 0 100;spot 0 9 0;";
        fitsAre("nothing is TOLD", new ShadowAlms(), 110, 1, 110);
        int[] inches = {0, 1, 2, 109, 110, 111};
        for (int told : inches) {
            boolean fits = told >= 1 && told <= 110;
            ShadowAlms x = Due.squareOf(text);
            x.tell(0, 0, 0, told);
            fitsAre(told + " inches", x, fits ? 1 : 0, fits ? told : Due.NONE, fits ? told : Due.NONE);
            ShadowAlms steps = Due.squareOf(text);
            steps.tell(0, 0, 1, told + 20);
            fitsAre(told + " inches and steps", steps, fits ? 1 : 0, fits ? told : Due.NONE, fits ? told : Due.NONE);
        }
        ShadowAlms x = Due.squareOf(text);
        x.tell(0, 0, 2, 100);
        fitsAre("at the wall", x, 11, 100, 110);
        x.tell(0, 0, 2, 101);
        fitsAre("beyond the wall", x, 0, Due.NONE, Due.NONE);
        x.tear();
        x.tell(0, 0, 3, 0);
        fitsAre("in the mud", x, 9, 1, 9);
        x.tear();
        x.tell(0, 0, 3, 11);
        fitsAre("the longest in the mud", x, 1, 110, 110);
        x.tear();
        x.tell(2, 0, 0, 11);
        fitsAre("the longest of all", x, 1, 110, 110);
        x.tell(2, 0, 0, 10);
        fitsAre("not both", x, 0, Due.NONE, Due.NONE);
        x.tear();
        x.tell(1, 0, 0, 1);
        fitsAre("no shadow is one inch", x, 0, Due.NONE, Due.NONE);
    }

    /** "THE BOOK is a row of (BELL, BEGGAR, ALMS), 30 at most", "FULL (30)" */
    private static void thirtyEntries() {
        ShadowAlms x = Due.squareOf("bell 10 0;spot 0 0 0;beggar 1;");
        for (int i = 1; i <= 30; i++) {
            Due.is("write", x.write(0, 0, 0), i);
            Due.is("entries", x.told(10), i);
        }
        Due.is("a 31st", x.write(0, 0, 1), Due.FULL);
        Due.is("entries then", x.told(10), 30);
        Due.is("it is not written", x.judge(), Due.NONE);
        Due.is("there is room to tell", x.tell(0, 0, 0, 0), 1);
    }

    /** "WRONG: the first that is not so now; NONE." */
    private static void theFirstWrong() {
        ShadowAlms x = Due.squareOf("bell 10 0;bell 20 0;spot 0 0 0;beggar 7;beggar 5;hat 1 50;");
        Due.is("no BOOK", x.judge(), Due.NONE);
        x.go(0, 0);
        x.lend(0, 1);
        for (int i = 0; i < 10; i++) {
            x.write(0, 0, 7);
            x.write(1, 0, 14);
            x.write(1, 1, -50);
        }
        Due.is("all thirty are so", x.judge(), Due.NONE);
        x.lend(0, Due.NONE);
        Due.is("the third is not", x.judge(), 2);
        x.go(0, Due.NONE);
        Due.is("the first is not", x.judge(), 0);
        x.go(0, 0);
        x.tear();
        for (int i = 0; i < 29; i++) {
            x.write(0, 0, 7);
        }
        x.write(0, 0, 8);
        Due.is("the last of thirty", x.judge(), 29);
        int[] alms = {6, 7, 8, -999, 99999};
        for (int told : alms) {
            x.tear();
            x.write(0, 0, told);
            Due.is("7 is told as " + told, x.judge(), told == 7 ? Due.NONE : 0);
        }
    }

    /** "THE BOOK is empty, nothing is TOLD: how many both had." */
    private static void tornBoth() {
        int[][] both = {{0, 0}, {1, 0}, {0, 1}, {10, 0}, {0, 30}, {10, 30}};
        ShadowAlms x = Due.squareOf("bell 10 0;spot 0 0 0;beggar 1;");
        for (int[] had : both) {
            for (int i = 0; i < had[0]; i++) {
                x.tell(0, 0, 0, 999);
            }
            for (int i = 0; i < had[1]; i++) {
                x.write(0, 0, 999);
            }
            Due.is("tear of " + had[0] + " and " + had[1], x.tear(), had[0] + had[1]);
            Due.is("nothing TOLD", x.told(9), 0);
            Due.is("no BOOK", x.told(10), 0);
            Due.is("all fit", x.fits(0), 110);
            Due.is("none is wrong", x.judge(), Due.NONE);
            Due.is("tear again", x.tear(), 0);
        }
        Due.is("tear on a new object", new ShadowAlms().tear(), 0);
    }
}
