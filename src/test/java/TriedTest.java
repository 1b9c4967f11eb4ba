/** Promises 17 to 22: standing, hats, giant, peace, bread, best. */
public final class TriedTest {
    private static final String TEXT = "year 10;bell 5 2;bell 20 0;spot 4 0 0;spot 0 5 0;spot 10 0 30;"
        + "beggar 50;beggar 60;beggar 40;beggar 55;hat 10 4;hat 5 20;";

    public static void main(String[] args) {
        standingForAll();
        standingForOne();
        standingWithMoreSpots();
        standingWithNothing();
        standingTwice();
        allStandThoughItBringsLess();
        standingRefusals();
        hatsWhereTheyBringMost();
        hatsOfLikeOnes();
        hatsOnlyForWhoStands();
        hatsRefusals();
        giants();
        giantsByLaws();
        giantRefusals();
        peace();
        bread();
        bestDay();
        bestRefusals();
        Due.end();
    }

    private static void standingIs(ShadowAlms x, int b, int g, int worth, int... who) {
        Due.is("standing worth for " + g, x.standing(b, g, Due.NONE), worth);
        for (int s = 0; s < who.length; s++) {
            Due.is("standing for " + g + " on " + s, x.standing(b, g, s), who[s]);
        }
    }

    private static void standingForAll() {
        // two spots without steps: the shorter in front, so that none is shaded
        ShadowAlms x = Due.squareOf("bell 10 0;spot 0 0 0;spot 0 0 0;beggar 9;beggar 7;");
        standingIs(x, 0, Due.NONE, 16, 1, 0);
        Due.is("nobody goes by it", x.beggar(0, 1), Due.NONE);
        x.go(0, 0);
        standingIs(x, 0, Due.NONE, 16, 1, 0);
        Due.is("nobody leaves by it", x.spot(0, 3), 0);
        // of like ones the lesser beggar on the first spot
        x = Due.squareOf("bell 10 0;spot 0 0 0;spot 0 0 0;beggar 7;beggar 7;beggar 7;");
        standingIs(x, 0, Due.NONE, 14, 0, 1);
        // a hat is worn as it is, and is paid for by who stands nowhere too
        x = Due.squareOf("bell 10 0;spot 0 0 0;spot 0 0 0;beggar 5;beggar 7;beggar 7;hat 1 4;hat 3 6;");
        x.lend(0, 0);
        x.lend(1, 1);
        standingIs(x, 0, Due.NONE, 10 + 7 - 10, 2, 1);
        x.law(2);
        standingIs(x, 0, Due.NONE, 7, 2, 1);
        x.law(1);
        standingIs(x, 0, Due.NONE, 7, 2, 1);
        // by THE DAY
        x = Due.squareOf("year 10;bell 0 9;spot 0 0 0;spot 0 0 5;beggar 1;beggar 9;");
        standingIs(x, 0, Due.NONE, 0, 0, 1);
        x.day(1);
        standingIs(x, 0, Due.NONE, 8, 1, 0);
    }

    private static void standingForOne() {
        ShadowAlms x = Due.squareOf(TEXT);
        standingIs(x, 1, 2, 88, 2, 0, 1);
        // beggar 0 alone is best on spot 0; like ones: 1 before 2 before 3 behind him
        standingIs(x, 1, 0, 108, 0, 1, 2);
        x.law(1);
        x.lend(0, 3);
        // 69 tall on spot 0 he has 138; who is on spot 1 is shaded; the wall leaves 30 behind
        standingIs(x, 1, 3, 138 + 0 + 30 - 4, 3, 0, 1);
        // who would have nothing anywhere: the first of all
        x = Due.squareOf("bell 0 0;spot 0 0 0;beggar 4;beggar 5;");
        standingIs(x, 0, 1, 0, 0);
    }

    private static void standingWithMoreSpots() {
        // as many as can stand: both beggars; spot 1 is taken by none, since its wall leaves one inch
        ShadowAlms x = Due.squareOf("bell 10 0;spot 0 0 0;spot 0 0 1;spot 0 0 0;beggar 9;beggar 7;");
        standingIs(x, 0, Due.NONE, 16, 0, Due.NONE, 1);
        // even where standing brings nothing, all stand, none behind all
        x = Due.squareOf("bell 0 0;spot 0 0 0;spot 0 0 0;spot 0 0 0;beggar 9;beggar 7;");
        standingIs(x, 0, Due.NONE, 0, 0, 1, Due.NONE);
        standingIs(x, 0, 1, 0, 0, 1, Due.NONE);
        x = Due.squareOf("bell 10 0;spot 0 0 1;spot 0 0 1;spot 0 0 0;beggar 9;");
        standingIs(x, 0, Due.NONE, 9, Due.NONE, Due.NONE, 0);
    }

    private static void standingWithNothing() {
        ShadowAlms noSpots = Due.squareOf("bell 10 0;beggar 9;hat 1 5;");
        noSpots.lend(0, 0);
        Due.is("no spots, all", noSpots.standing(0, Due.NONE, Due.NONE), -5);
        Due.is("no spots, one", noSpots.standing(0, 0, Due.NONE), -5);
        ShadowAlms noBeggars = Due.squareOf("bell 10 0;spot 0 0 0;");
        Due.is("no beggars", noBeggars.standing(0, Due.NONE, Due.NONE), 0);
        Due.is("no beggars, the spot", noBeggars.standing(0, Due.NONE, 0), Due.NONE);
    }

    private static void standingTwice() {
        ShadowAlms x = Due.squareOf("bell 20 0;bell 10 0;spot 0 0 0;spot 0 0 0;beggar 9;beggar 7;hat 1 0;");
        standingIs(x, 0, Due.NONE, 32, 1, 0);
        standingIs(x, 1, Due.NONE, 16, 1, 0);
        standingIs(x, 1, 1, 7, 1, 0);
        x.go(0, 0);
        hatsAre(x, 0, 20, 0);
        hatsAre(x, 1, 10, 0);
    }

    private static void allStandThoughItBringsLess() {
        // who is on spot 0 shades the other, and has but an inch: yet both must stand
        ShadowAlms x = Due.squareOf("bell 10 0;spot 20 0 1;spot 0 0 0;beggar 9;beggar 9;");
        standingIs(x, 0, Due.NONE, 1, 0, 1);
        x = Due.squareOf("bell 10 0;spot 0 0 0;spot 20 0 1;spot 0 0 0;beggar 9;beggar 9;beggar 9;");
        standingIs(x, 0, Due.NONE, 10, 0, 1, 2);
        // one who has the choice takes the spot that brings more, not the first
        x = Due.squareOf("bell 10 0;spot 20 0 1;spot 0 0 0;beggar 9;");
        standingIs(x, 0, Due.NONE, 9, Due.NONE, 0);
    }

    private static void standingRefusals() {
        ShadowAlms x = Due.squareOf(TEXT);
        Due.is("standing bell 2", x.standing(2, 0, 0), Due.UNKNOWN);
        Due.is("standing bell -1", x.standing(-1, 0, 0), Due.UNKNOWN);
        Due.is("standing beggar 4", x.standing(0, 4, 0), Due.UNKNOWN);
        Due.is("standing beggar -2", x.standing(0, -2, 0), Due.UNKNOWN);
        Due.is("standing spot 3", x.standing(0, 0, 3), Due.UNKNOWN);
        Due.is("standing spot -2", x.standing(0, 0, -2), Due.UNKNOWN);
    }

    private static void hatsAre(ShadowAlms x, int b, int worth, int... whom) {
        Due.is("hats worth", x.hats(b, Due.NONE), worth);
        for (int h = 0; h < whom.length; h++) {
            Due.is("hats on whom " + h, x.hats(b, h), whom[h]);
        }
    }

    private static void hatsWhereTheyBringMost() {
        ShadowAlms x = Due.squareOf(TEXT);
        x.go(0, 0);
        x.go(1, 1);
        hatsAre(x, 1, 174, 1, Due.NONE);
        // what is lent now counts not
        x.lend(0, 0);
        x.lend(1, 3);
        hatsAre(x, 1, 174, 1, Due.NONE);
        Due.is("it is lent as it was", x.hat(0, 2), 0);
        // both hats bring more than they cost, each to one
        x = Due.squareOf("bell 20 0;spot 0 0 0;spot 0 0 0;beggar 10;beggar 40;hat 10 5;hat 20 5;");
        x.go(0, 0);
        x.go(1, 1);
        hatsAre(x, 0, 20 + 80 + 60 - 10, 0, 1);
        // the wall behind 1 leaves nothing to be had by him
        x = Due.squareOf("bell 20 0;spot 0 0 0;spot 0 0 80;beggar 10;beggar 40;hat 10 5;hat 20 5;");
        x.go(0, 0);
        x.go(1, 1);
        hatsAre(x, 0, 20 + 80 + 35, Due.NONE, 0);
        x.law(2);
        hatsAre(x, 0, 20 + 50 + 25, Due.NONE, 0);
        x.law(1);
        hatsAre(x, 0, 20 + 80 + 35, Due.NONE, 0);
    }

    private static void hatsOfLikeOnes() {
        ShadowAlms x = Due.squareOf("bell 10 0;spot 0 0 0;spot 0 0 0;beggar 9;beggar 9;hat 5 5;");
        x.go(0, 0);
        x.go(1, 1);
        hatsAre(x, 0, 18, Due.NONE);
        x = Due.squareOf("bell 10 0;spot 0 0 0;spot 9 9 0;spot 0 0 0;beggar 9;beggar 9;hat 5 2;hat 5 2;hat 5 2;");
        x.go(0, 0);
        x.go(1, 2);
        // three alike for two heads: the first hat to nobody, then beggars rising
        hatsAre(x, 0, 24, Due.NONE, 0, 1);
    }

    private static void hatsOnlyForWhoStands() {
        ShadowAlms x = Due.squareOf("bell 10 0;spot 0 0 0;beggar 9;beggar 9;hat 5 0;hat 6 0;");
        hatsAre(x, 0, 0, Due.NONE, Due.NONE);
        x.go(1, 0);
        hatsAre(x, 0, 15, Due.NONE, 1);
        x.lend(0, 0);
        hatsAre(x, 0, 15, Due.NONE, 1);
        ShadowAlms without = Due.squareOf("bell 10 0;spot 0 0 0;beggar 9;");
        without.go(0, 0);
        hatsAre(without, 0, 9);
    }

    private static void hatsRefusals() {
        ShadowAlms x = Due.squareOf(TEXT);
        Due.is("hats bell 2", x.hats(2, 0), Due.UNKNOWN);
        Due.is("hats bell -1", x.hats(-1, 0), Due.UNKNOWN);
        Due.is("hats hat 2", x.hats(0, 2), Due.UNKNOWN);
        Due.is("hats hat -2", x.hats(0, -2), Due.UNKNOWN);
    }

    private static void giantIs(ShadowAlms x, int height, int p, int where, int worth) {
        Due.is("giant of " + height + " for " + p + ": where", x.giant(0, height, p, 0), where);
        Due.is("giant of " + height + " for " + p + ": worth", x.giant(0, height, p, 1), worth);
    }

    private static void giants() {
        ShadowAlms x = Due.squareOf("bell 10 0;spot 0 0 0;spot 0 0 0;spot 0 0 0;beggar 10;hat 5 3;");
        x.go(0, 1);
        x.lend(0, 0);
        // on 0 he would shade the beggar; on 2 he stands free of him
        giantIs(x, 20, 5, 2, 15);
        // as tall as the beggar he shades him not: of like ones the least
        giantIs(x, 15, 0, 0, 15);
        // shorter, he stands ahead of him, not behind
        giantIs(x, 14, 0, 0, 14);
        giantIs(x, 1, 999, 0, -998);
        giantIs(x, 200, 0, 2, 200);
        Due.is("he is gone again", x.spot(2, 3), Due.NONE);
        Due.is("BEGGARS are as they were", x.told(3), 1);
        ShadowAlms worse = Due.squareOf("bell 10 0;spot 0 9 1;spot 0 0 0;beggar 10;");
        worse.go(0, 1);
        giantIs(worse, 100, 0, 0, -9);
        ShadowAlms six = Due.squareOf("bell 10 0;spot 0 0 0;spot 0 0 0;spot 0 0 0;spot 0 0 0;spot 0 0 0;spot 3 0 0;"
            + "beggar 1;beggar 1;beggar 1;beggar 1;beggar 1;beggar 1;");
        for (int g = 0; g < 5; g++) {
            six.go(g, g);
        }
        giantIs(six, 100, 1, 5, 102);
        six.go(5, 5);
        giantIs(six, 100, 1, Due.NONE, 0);
        giantIs(Due.squareOf("bell 1 1;beggar 1;"), 100, 1, Due.NONE, 0);
        giantIs(Due.squareOf("bell 10 0;spot 7 0 0;"), 100, 1, 0, 106);
        // he wears no hat that one of his number wore on an earlier square
        ShadowAlms later = Due.squareOf("bell 10 0;spot 0 0 0;spot 0 0 0;beggar 1;beggar 1;hat 1 9;");
        later.lend(0, 1);
        giantIs(later, 100, 1, 0, 99);
        Due.feed(later, "bell 10 0;spot 0 0 0;spot 0 0 0;beggar 1;hat 1 9;");
        later.square();
        giantIs(later, 100, 1, 0, 99);
    }

    private static void giantsByLaws() {
        ShadowAlms x = Due.squareOf("bell 10 0;spot 0 0 0;spot 0 0 0;beggar 60;");
        x.go(0, 0);
        x.law(2);
        giantIs(x, 100, 10, 1, 40);
        x.law(1);
        giantIs(x, 100, 10, 1, 90);
        giantIs(x, 60, 0, 1, 60);
        x.law(0);
        x.day(6);
        giantIs(x, 100, 10, 1, 90);
        ShadowAlms byDay = Due.squareOf("year 10;bell 0 5;spot 0 0 0;");
        giantIs(byDay, 10, 0, 0, 0);
        byDay.day(4);
        giantIs(byDay, 10, 0, 0, 20);
    }

    private static void giantRefusals() {
        ShadowAlms x = Due.squareOf(TEXT);
        Due.is("giant bell 2", x.giant(2, 1, 0, 0), Due.UNKNOWN);
        Due.is("giant bell -1", x.giant(-1, 1, 0, 0), Due.UNKNOWN);
        Due.is("giant bell 2, height 0", x.giant(2, 0, 0, 0), Due.UNKNOWN);
        Due.is("giant height 0", x.giant(0, 0, 0, 0), Due.OUTSIDE);
        Due.is("giant height 201", x.giant(0, 201, 0, 0), Due.OUTSIDE);
        Due.is("giant p -1", x.giant(0, 1, -1, 0), Due.OUTSIDE);
        Due.is("giant p 1000", x.giant(0, 1, 1000, 0), Due.OUTSIDE);
        Due.is("giant what 2", x.giant(0, 1, 0, 2), Due.OUTSIDE);
        Due.is("giant what -1", x.giant(0, 1, 0, -1), Due.OUTSIDE);
    }

    private static ShadowAlms three() {
        // alms at the bell: 20, 10 less 4, and nothing less 3
        ShadowAlms x = Due.squareOf("bell 10 0;bell 0 0;spot 0 0 0;spot 0 0 0;spot 0 0 10;beggar 20;beggar 10;beggar 5;hat 1 4;hat 1 3;");
        x.go(0, 0);
        x.go(1, 2);
        x.lend(0, 1);
        x.lend(1, 2);
        return x;
    }

    private static void peace() {
        ShadowAlms x = three();
        Due.is("peace 0", x.peace(0, 0), 3);
        Due.is("peace 6", x.peace(0, 6), 9);
        Due.is("peace 7", x.peace(0, 7), 1 + 10);
        Due.is("peace 20", x.peace(0, 20), 14 + 23);
        Due.is("peace 21", x.peace(0, 21), 1 + 15 + 24);
        Due.is("peace 999", x.peace(0, 999), 979 + 993 + 1002);
        Due.is("peace at the other bell", x.peace(1, 0), 7);
        x.law(1);
        Due.is("peace by law 1", x.peace(0, 10), 14 + 13);
        Due.is("peace -1", x.peace(0, -1), Due.OUTSIDE);
        Due.is("peace 1000", x.peace(0, 1000), Due.OUTSIDE);
        Due.is("peace bell 2", x.peace(2, 0), Due.UNKNOWN);
        Due.is("peace bell -1", x.peace(-1, 0), Due.UNKNOWN);
        Due.is("peace bell 2, v 1000", x.peace(2, 1000), Due.UNKNOWN);
        Due.is("peace for nobody", Due.squareOf("bell 1 1;").peace(0, 999), 0);
    }

    private static void bread() {
        ShadowAlms x = three();
        Due.is("bread 0", x.bread(0, 0), Due.NONE);
        Due.is("bread 2", x.bread(0, 2), Due.NONE);
        Due.is("bread 3", x.bread(0, 3), 0);
        Due.is("bread 9", x.bread(0, 9), 6);
        Due.is("bread 10", x.bread(0, 10), 6);
        Due.is("bread 11", x.bread(0, 11), 7);
        Due.is("bread 2973", x.bread(0, 979 + 993 + 1002 - 1), 998);
        Due.is("bread 2974", x.bread(0, 979 + 993 + 1002), 999);
        Due.is("bread 9999", x.bread(0, 9999), 999);
        Due.is("bread at the other bell", x.bread(1, 6), Due.NONE);
        Due.is("bread -1", x.bread(0, -1), Due.OUTSIDE);
        Due.is("bread 10000", x.bread(0, 10000), Due.OUTSIDE);
        Due.is("bread bell 2", x.bread(2, 0), Due.UNKNOWN);
        Due.is("bread bell -1", x.bread(-1, 0), Due.UNKNOWN);
        Due.is("bread bell 2, loaves -1", x.bread(2, -1), Due.UNKNOWN);
        Due.is("bread for nobody", Due.squareOf("bell 1 1;").bread(0, 0), 999);
    }

    private static void bestDay() {
        ShadowAlms x = Due.squareOf("year 9;bell 10 5;bell 20 1;spot 0 0 0;spot 0 0 0;beggar 10;beggar 8;hat 2 3;");
        x.go(0, 0);
        x.go(1, 1);
        x.lend(0, 0);
        // the middle of nine days is reached on day 4 and again on day 5: LONG 30 and 24, TALL 12, the hat twice 3
        Due.is("the day", x.best(0, 0), 4);
        Due.is("how much", x.best(0, 1), 36 + 28 - 6);
        Due.is("THE DAY counts not", x.day(7), 7);
        Due.is("the day then", x.best(0, 0), 4);
        Due.is("how much then", x.best(0, 1), 58);
        Due.is("who is shaded, the day", x.best(1, 0), 0);
        Due.is("who is shaded, how much", x.best(1, 1), 0);
        x.go(1, Due.NONE);
        x.lend(0, 1);
        Due.is("who stands nowhere pays at each bell", x.best(1, 1), -6);
        x.law(2);
        // by law 2 no more than 50: reached nowhere here
        Due.is("by law 2", x.best(0, 1), 30 + 24);
        ShadowAlms capped = Due.squareOf("year 60;bell 30 9;spot 0 0 0;beggar 10;");
        capped.go(0, 0);
        capped.law(2);
        Due.is("the first day of 50", capped.best(0, 0), 3);
        Due.is("it is 50", capped.best(0, 1), 50);
        capped.law(0);
        Due.is("the middle of 60", capped.best(0, 0), 30);
        ShadowAlms two = Due.squareOf("year 2;bell 10 9;spot 0 0 0;beggar 10;");
        two.go(0, 0);
        Due.is("the middle of 2", two.best(0, 0), 1);
        Due.is("how much of 2", two.best(0, 1), 19);
        ShadowAlms one = Due.squareOf("year 1;bell 10 9;spot 0 0 0;beggar 10;");
        one.go(0, 0);
        Due.is("the only day", one.best(0, 0), 0);
        Due.is("how much of 1", one.best(0, 1), 10);
        ShadowAlms noBells = Due.squareOf("beggar 1;");
        Due.is("without bells, the day", noBells.best(0, 0), 0);
        Due.is("without bells, how much", noBells.best(0, 1), 0);
        // by law 1 the best day may be one on which he is the longest, though days are longer later
        ShadowAlms byLaw = Due.squareOf("year 8;bell 10 9;spot 0 0 0;spot 0 0 12;beggar 14;beggar 10;");
        byLaw.go(0, 1);
        byLaw.go(1, 0);
        byLaw.law(1);
        Due.is("the one with the wall, the day", byLaw.best(0, 0), 0);
        Due.is("the one with the wall, how much", byLaw.best(0, 1), 22);
        Due.is("the other one, the day", byLaw.best(1, 0), 4);
        Due.is("the other one, how much", byLaw.best(1, 1), 46 + 12);
    }

    private static void bestRefusals() {
        ShadowAlms x = Due.squareOf(TEXT);
        Due.is("best beggar 4", x.best(4, 0), Due.UNKNOWN);
        Due.is("best beggar -1", x.best(-1, 0), Due.UNKNOWN);
        Due.is("best beggar 4 what 2", x.best(4, 2), Due.UNKNOWN);
        Due.is("best what 2", x.best(0, 2), Due.OUTSIDE);
        Due.is("best what -1", x.best(0, -1), Due.OUTSIDE);
    }
}
