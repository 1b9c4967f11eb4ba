/** The document's part 2, DAYS, and promises 5 to 16: a test for each sentence that names a bound. */
public final class DayBoundsTest {
    private static final int MOST = 999999999;

    public static void main(String[] args) {
        atFirst();
        dayOfTheYear();
        daysGoOn();
        longestAndShortest();
        oneOnEachSpot();
        oneHatEach();
        tallest();
        inchesAreCut();
        mudTakesTenths();
        wallsCut();
        tallerInFront();
        onlyTheNextInFront();
        asMuchAsTheShadow();
        theLongestHasAll();
        fiftyAtMost();
        hatsCost();
        whoStandsNowhere();
        whatIsGiven();
        moneyHasAnEnd();
        driftWithoutSome();
        Due.end();
    }

    /** "THE DAY is 0 at first", "or nowhere (at first), with a HAT or none", "LAW 0 (at first)" */
    private static void atFirst() {
        ShadowAlms x = new ShadowAlms();
        Due.is("THE DAY", x.told(6), 0);
        Due.is("LAW", x.told(7), 0);
        Due.is("GIVEN", x.told(8), 0);
        Due.is("law answers what it was", x.law(0), 0);
        x = Due.squareOf("bell 1 1;spot 0 0 0;beggar 5;hat 3 1;");
        Due.is("THE DAY of a square", x.told(6), 0);
        Due.is("nowhere", x.beggar(0, 1), Due.NONE);
        Due.is("no HAT", x.beggar(0, 2), Due.NONE);
        Due.is("TALL of T alone", x.beggar(0, 3), 5);
        Due.is("PURSE", x.beggar(0, 4), 0);
        Due.is("nobody there", x.spot(0, 3), Due.NONE);
        Due.is("on nobody", x.hat(0, 2), Due.NONE);
    }

    /** "the day of the YEAR is THE DAY left over by N; d is the lesser of it and N less it" */
    private static void dayOfTheYear() {
        for (int n = 1; n <= 60; n++) {
            ShadowAlms x = Due.squareOf("year " + n + ";bell 7 3;spot 0 0 0;beggar 10;");
            x.go(0, 0);
            int d = 0;
            for (int day = 0; day <= 2 * n; day++) {
                // up to the middle, and back again down to day 0
                Due.is("year of " + n + ", day " + day, x.bell(0, day), 7 + 3 * d);
                int next = (day + 1) % n;
                d = next == 0 ? 0 : 2 * next < n + 1 ? next : n - next;
            }
            Due.is("year of " + n + ", its shadow on day 0", x.shadow(0, 0, 0), 7);
            x.day(n);
            Due.is("year of " + n + ", its shadow a year on", x.shadow(0, 0, 0), 7);
        }
        // 99999 is day 39 of a year of 60, day 3 of one of 12; 99998 is day 38, and 2
        ShadowAlms sixty = Due.squareOf("year 60;bell 0 1;");
        Due.is("99999 of 60", sixty.bell(0, 99999), 21);
        Due.is("99998 of 60", sixty.bell(0, 99998), 22);
        ShadowAlms twelve = Due.squareOf("bell 0 1;");
        Due.is("99999 of 12", twelve.bell(0, 99999), 3);
        Due.is("the middle of 12", twelve.bell(0, 6), 6);
        Due.is("ahead of the middle", twelve.bell(0, 5), 5);
        Due.is("behind the middle", twelve.bell(0, 7), 5);
        Due.is("the last of 12", twelve.bell(0, 11), 1);
        Due.is("the first again", twelve.bell(0, 12), 0);
        ShadowAlms odd = Due.squareOf("year 59;bell 0 1;");
        int[] aroundTheMiddle = {28, 29, 29, 28};
        for (int i = 0; i < 4; i++) {
            Due.is("the middle of 59, " + i, odd.bell(0, 28 + i), aroundTheMiddle[i]);
        }
    }

    /** "n days (1 .. 99) pass, no BELLS: THE DAY" */
    private static void daysGoOn() {
        ShadowAlms x = Due.squareOf("year 60;bell 0 1;spot 0 0 0;beggar 10;");
        x.go(0, 0);
        int day = 0;
        for (int i = 0; i < 400; i++) {
            int n = i % 2 == 0 ? 99 : 1;
            day += n;
            Due.is("day(" + n + ")", x.day(n), day);
        }
        Due.is("THE DAY", x.told(6), 20000);
        Due.is("LONG on it", x.shadow(0, 0, 0), x.bell(0, 20000));
        Due.is("that is day 20 of 60", x.bell(0, 20000), 20);
        Due.is("no BELLS", x.told(8), 0);
        Due.is("no DRAWS", x.seed(0), 0);
    }

    /** "L, 0 .. 99 ... S more, 0 .. 9": "LONG of a BELL on a day: L and S times d" */
    private static void longestAndShortest() {
        ShadowAlms x = Due.squareOf("year 60;bell 99 9;bell 0 0;bell 99 0;bell 0 9;");
        int[] first = {99, 0, 99, 0};
        int[] middle = {369, 0, 99, 270};
        for (int b = 0; b < 4; b++) {
            Due.is("bell " + b + " on day 0", x.bell(b, 0), first[b]);
            Due.is("bell " + b + " on day 30", x.bell(b, 30), middle[b]);
            Due.is("bell " + b + " on day 60", x.bell(b, 60), first[b]);
        }
    }

    /** "stands on a SPOT (one at most on each), or nowhere", "NOT: another one is there" */
    private static void oneOnEachSpot() {
        ShadowAlms x = Due.squareOf("spot 0 0 0;".repeat(6) + "beggar 1;".repeat(6));
        for (int g = 0; g < 6; g++) {
            Due.is("go to a free one", x.go(g, 5 - g), Due.NONE);
        }
        for (int g = 0; g < 6; g++) {
            for (int s = 0; s < 6; s++) {
                Due.is("go(" + g + ", " + s + ") when all are taken", x.go(g, s), s == 5 - g ? s : Due.NOT);
            }
            Due.is("where he is", x.beggar(g, 1), 5 - g);
            Due.is("who is there", x.spot(5 - g, 3), g);
        }
        Due.is("away", x.go(0, Due.NONE), 5);
        Due.is("away again", x.go(0, Due.NONE), Due.NONE);
        Due.is("it is free", x.spot(5, 3), Due.NONE);
        Due.is("another one goes", x.go(5, 5), 0);
        Due.is("where he was is free", x.spot(0, 3), Due.NONE);
        Due.is("the first goes there", x.go(0, 0), Due.NONE);
        Due.is("and not back", x.go(0, 5), Due.NOT);
    }

    /** "with a HAT or none (one at most each, each HAT on one at most)", "NOT: he has another one" */
    private static void oneHatEach() {
        ShadowAlms x = Due.squareOf("beggar 1;".repeat(6) + "hat 1 0;".repeat(4));
        for (int h = 0; h < 4; h++) {
            Due.is("lend a free one", x.lend(h, h + 2), Due.NONE);
        }
        for (int h = 0; h < 4; h++) {
            for (int g = 2; g < 6; g++) {
                Due.is("lend(" + h + ", " + g + ") when they have some", x.lend(h, g), g == h + 2 ? g : Due.NOT);
            }
        }
        Due.is("from one to one without", x.lend(3, 0), 5);
        Due.is("he is bare", x.beggar(5, 2), Due.NONE);
        Due.is("it is on one", x.hat(3, 2), 0);
        Due.is("he may have another", x.lend(0, 5), 2);
        Due.is("back", x.lend(0, Due.NONE), 5);
        Due.is("back again", x.lend(0, Due.NONE), Due.NONE);
        Due.is("on nobody", x.hat(0, 2), Due.NONE);
    }

    /** "TALL: T, his HAT's H, the SPOT's STEPS together" */
    private static void tallest() {
        ShadowAlms x = Due.squareOf("spot 20 0 0;spot 0 0 0;beggar 90;beggar 1;hat 20 0;hat 1 0;");
        x.go(0, 0);
        Due.is("without a hat", x.beggar(0, 3), 110);
        x.lend(0, 0);
        Due.is("the tallest", x.beggar(0, 3), 130);
        x.go(0, Due.NONE);
        Due.is("without steps", x.beggar(0, 3), 110);
        Due.is("the least", x.beggar(1, 3), 1);
        x.go(1, 1);
        Due.is("the least on a spot", x.beggar(1, 3), 1);
        x.lend(1, 1);
        Due.is("with the least hat", x.beggar(1, 3), 2);
    }

    private static int shadowOf(int tall, int length, int mud, int wall) {
        ShadowAlms x = Due.squareOf("bell " + length + " 0;spot 0 " + mud + " " + wall + ";beggar " + tall + ";");
        x.go(0, 0);
        return x.shadow(0, 0, 0);
    }

    /** "TALL times LONG / 10 (cut)" */
    private static void inchesAreCut() {
        Due.is("9 tenths", shadowOf(1, 9, 0, 0), 0);
        Due.is("10 tenths", shadowOf(1, 10, 0, 0), 1);
        Due.is("11 tenths", shadowOf(1, 11, 0, 0), 1);
        Due.is("19 tenths", shadowOf(1, 19, 0, 0), 1);
        Due.is("20 tenths", shadowOf(1, 20, 0, 0), 2);
        Due.is("no LONG", shadowOf(90, 0, 0, 0), 0);
        Due.is("90 by 99", shadowOf(90, 99, 0, 0), 891);
        Due.is("89 by 99", shadowOf(89, 99, 0, 0), 881);
    }

    /** "of that M tenths less (the shadow times (10 less M) / 10, cut)" */
    private static void mudTakesTenths() {
        Due.is("M 0", shadowOf(90, 99, 0, 0), 891);
        Due.is("M 1", shadowOf(90, 99, 1, 0), 801);
        Due.is("M 9", shadowOf(90, 99, 9, 0), 89);
        Due.is("9 inches, M 9", shadowOf(9, 10, 9, 0), 0);
        Due.is("10 inches, M 9", shadowOf(10, 10, 9, 0), 1);
        Due.is("1 inch, M 1", shadowOf(1, 10, 1, 0), 0);
        // 19 tenths are 1 inch, of which 4 tenths less are none; cut but once it would be 1
        Due.is("cut twice", shadowOf(1, 19, 4, 0), 0);
        Due.is("no shadow, M 9", shadowOf(90, 0, 9, 0), 0);
    }

    /** "a WALL W behind, 0 .. 200: no shadow is longer; 0: none" */
    private static void wallsCut() {
        Due.is("far less than the wall", shadowOf(1, 10, 0, 200), 1);
        Due.is("a wall of 0 is none", shadowOf(90, 99, 0, 0), 891);
        Due.is("a wall of 1", shadowOf(90, 99, 0, 1), 1);
        Due.is("a wall of 200", shadowOf(90, 99, 0, 200), 200);
        Due.is("one less than the wall", shadowOf(19, 10, 0, 20), 19);
        Due.is("as long as the wall", shadowOf(20, 10, 0, 20), 20);
        Due.is("one more than the wall", shadowOf(21, 10, 0, 20), 20);
        // the mud is ahead of the wall: 40 less 5 tenths is 20
        Due.is("mud, then the wall", shadowOf(40, 10, 5, 20), 20);
        Due.is("mud, then a wall of more", shadowOf(40, 10, 5, 30), 20);
        Due.is("no shadow by a wall", shadowOf(90, 0, 0, 1), 0);
    }

    /** "none, if the one on the SPOT next nearer to the door (number one less) is TALLER (by a bigger TALL)" */
    private static void tallerInFront() {
        for (int front = 9; front <= 11; front++) {
            int want = front > 10 ? 0 : 10;
            ShadowAlms byHeight = Due.squareOf("bell 10 0;spot 0 0 0;spot 0 0 0;beggar " + front + ";beggar 10;");
            byHeight.go(0, 0);
            byHeight.go(1, 1);
            Due.is("T in front " + front, byHeight.shadow(0, 1, 0), want);
            ShadowAlms bySteps = Due.squareOf("bell 10 0;spot " + front + " 0 0;spot 9 0 0;beggar 1;beggar 1;");
            bySteps.go(0, 0);
            bySteps.go(1, 1);
            Due.is("STEPS in front " + (front + 1), bySteps.shadow(0, 1, 0), front + 1 > 10 ? 0 : 10);
            ShadowAlms byHat = Due.squareOf("bell 10 0;spot 0 0 0;spot 0 0 0;beggar 1;beggar 10;hat " + (front - 1) + " 0;");
            byHat.go(0, 0);
            byHat.go(1, 1);
            byHat.lend(0, 0);
            Due.is("HAT in front " + front, byHat.shadow(0, 1, 0), want);
        }
        // a wall or mud makes nobody smaller
        ShadowAlms x = Due.squareOf("bell 10 0;spot 0 9 1;spot 0 0 0;beggar 11;beggar 10;");
        x.go(0, 0);
        x.go(1, 1);
        Due.is("by TALL, not by SHADOW", x.shadow(0, 1, 0), 0);
        Due.is("he in front has his", x.shadow(0, 0, 0), 1);
    }

    private static void onlyTheNextInFront() {
        ShadowAlms x = Due.squareOf("bell 10 0;" + "spot 0 0 0;".repeat(6) + "beggar 90;beggar 10;beggar 5;");
        x.go(0, 5);
        Due.is("the last spot alone", x.shadow(0, 0, 0), 90);
        x.go(1, 4);
        Due.is("the taller one behind", x.shadow(0, 0, 0), 90);
        Due.is("the smaller one in front", x.shadow(0, 1, 0), 10);
        x.go(0, 3);
        Due.is("the taller one in front", x.shadow(0, 1, 0), 0);
        x.go(2, 5);
        Due.is("who has none takes from the next", x.shadow(0, 2, 0), 0);
        x.go(0, 2);
        Due.is("two nearer takes nothing", x.shadow(0, 1, 0), 10);
        x.go(1, 0);
        Due.is("nobody is ahead of the first", x.shadow(0, 1, 0), 10);
        Due.is("nobody ahead of him", x.shadow(0, 2, 0), 5);
        x.go(0, Due.NONE);
        x.go(2, 1);
        Due.is("the second behind the first", x.shadow(0, 2, 0), 0);
        // the last spot is not next to the first
        x.go(1, Due.NONE);
        x.go(0, 5);
        x.go(2, 0);
        Due.is("no row goes round", x.shadow(0, 2, 0), 5);
    }

    /** "LAW 0: as much as the SHADOW" */
    private static void asMuchAsTheShadow() {
        for (int tall : new int[] {1, 50, 51, 90}) {
            ShadowAlms x = Due.squareOf("bell 10 0;spot 0 0 0;beggar " + tall + ";");
            x.go(0, 0);
            Due.is("ALMS by law 0", x.shadow(0, 0, 1), tall);
        }
    }

    private static void almsAre(ShadowAlms x, int... want) {
        for (int g = 0; g < want.length; g++) {
            Due.is("ALMS of " + g, x.shadow(0, g, 1), want[g]);
        }
    }

    /** "LAW 1: who has the longest of those who stand (of like ones the least BEGGAR) has all ..., the others nothing" */
    private static void theLongestHasAll() {
        String spots = "spot 0 0 0;spot 0 9 1;".repeat(3);
        ShadowAlms x = Due.squareOf("bell 10 0;" + spots + "beggar 10;beggar 11;beggar 11;beggar 90;");
        x.law(1);
        almsAre(x, 0, 0, 0, 0);
        Due.is("nobody stands: nothing is given", x.ring(0), 0);
        x.go(2, 0);
        almsAre(x, 0, 0, 11, 0);
        x.go(1, 2);
        almsAre(x, 0, 22, 0, 0);
        x.go(0, 4);
        almsAre(x, 0, 32, 0, 0);
        x.go(1, Due.NONE);
        almsAre(x, 0, 0, 21, 0);
        x.go(2, Due.NONE);
        almsAre(x, 10, 0, 0, 0);
        ShadowAlms like = Due.squareOf("bell 10 0;" + spots + "beggar 10;beggar 10;beggar 9;");
        like.law(1);
        like.go(0, 4);
        like.go(1, 0);
        like.go(2, 2);
        almsAre(like, 29, 0, 0);
        // one without a shadow is as long as another one without
        ShadowAlms none = Due.squareOf("bell 0 0;spot 0 0 0;spot 0 0 0;beggar 10;beggar 10;");
        none.law(1);
        none.go(0, 0);
        none.go(1, 1);
        almsAre(none, 0, 0);
        Due.is("nothing is given", none.ring(0), 0);
    }

    /** "LAW 2: SHADOW, 50 at most" */
    private static void fiftyAtMost() {
        int[] tall = {1, 49, 50, 51, 90};
        int[] want = {1, 49, 50, 50, 50};
        for (int i = 0; i < tall.length; i++) {
            ShadowAlms x = Due.squareOf("bell 10 0;spot 0 0 0;beggar " + tall[i] + ";hat 1 7;");
            x.law(2);
            x.go(0, 0);
            Due.is("ALMS by law 2 of " + tall[i], x.shadow(0, 0, 1), want[i]);
            Due.is("SHADOW by law 2 of " + tall[i], x.shadow(0, 0, 0), tall[i]);
            Due.is("given by law 2 of " + tall[i], x.ring(0), want[i]);
        }
        ShadowAlms x = Due.squareOf("bell 10 0;spot 0 0 0;beggar 60;hat 1 7;");
        x.law(2);
        x.go(0, 0);
        x.lend(0, 0);
        Due.is("the hat is paid behind the 50", x.shadow(0, 0, 1), 43);
    }

    /** "A HAT costs C of it (alms may be below 0)" */
    private static void hatsCost() {
        int[] cost = {0, 9, 10, 11, 50};
        for (int c : cost) {
            ShadowAlms x = Due.squareOf("bell 10 0;spot 0 0 0;beggar 9;hat 1 " + c + ";");
            x.go(0, 0);
            x.lend(0, 0);
            Due.is("10 less " + c, x.shadow(0, 0, 1), 10 - c);
            Due.is("given ahead of what it costs", x.ring(0), 10);
            Due.is("PURSE", x.beggar(0, 4), 10 - c);
            Due.is("GIVEN", x.told(8), 10);
        }
    }

    /** "Who stands nowhere has 0 (and pays for his HAT)." */
    private static void whoStandsNowhere() {
        for (int law = 0; law <= 2; law++) {
            ShadowAlms x = Due.squareOf("bell 99 9;spot 0 0 0;beggar 90;beggar 90;hat 20 50;hat 1 0;");
            x.law(law);
            Due.is("without a hat, SHADOW", x.shadow(0, 0, 0), 0);
            Due.is("without a hat", x.shadow(0, 0, 1), 0);
            x.lend(0, 0);
            x.lend(1, 1);
            Due.is("with a hat, SHADOW", x.shadow(0, 0, 0), 0);
            Due.is("with a hat", x.shadow(0, 0, 1), -50);
            Due.is("with a hat that costs nothing", x.shadow(0, 1, 1), 0);
            Due.is("nothing is given", x.ring(0), 0);
            Due.is("he pays", x.beggar(0, 4), -50);
            x.ring(0);
            Due.is("a PURSE below 0 pays on", x.beggar(0, 4), -100);
            Due.is("GIVEN", x.told(8), 0);
        }
    }

    /** "RUNG: ...: each PURSE has its ALMS ...; what was GIVEN is more by ALMS of all ahead of what HATS cost" */
    private static void whatIsGiven() {
        String text = "bell 10 0;bell 0 0;bell 20 0;bell 30 0;spot 0 0 0;spot 0 0 0;beggar 7;beggar 70;beggar 5;hat 1 3;hat 2 4;";
        int[][] purses = {{7, 68, -4}, {0, 75, -4}, {7, 47, -4}};
        int[] given = {78, 78, 57};
        for (int law = 0; law <= 2; law++) {
            ShadowAlms x = Due.squareOf(text);
            x.law(law);
            x.go(0, 0);
            x.go(1, 1);
            x.lend(0, 1);
            x.lend(1, 2);
            Due.is("ring(0) by law " + law, x.ring(0), given[law]);
            for (int g = 0; g < 3; g++) {
                Due.is("PURSE of " + g + " by law " + law, x.beggar(g, 4), purses[law][g]);
            }
            Due.is("GIVEN by law " + law, x.told(8), given[law]);
            Due.is("a bell without shadows gives nothing", x.ring(1), 0);
            Due.is("but hats are paid", x.beggar(2, 4), -8);
            Due.is("GIVEN then", x.told(8), given[law]);
            Due.is("the last bell gives more", x.ring(3) > given[law] || law == 2 ? 1 : 0, 1);
            Due.is("THE DAY is as it was", x.told(6), 0);
        }
    }

    /** "(999999999 at most)", of a PURSE and of what was GIVEN: at the bound itself, and beyond. */
    private static void moneyHasAnEnd() {
        // four as tall as can be; by law 1 the least of them has all; on the last spots 200 inches, and 1, are the most
        ShadowAlms x = Due.squareOf("year 60;" + "bell 99 9;".repeat(4) + "spot 20 0 0;".repeat(4) + "spot 0 0 200;spot 0 0 1;"
            + "beggar 90;".repeat(4) + "beggar 1;beggar 1;" + "hat 20 0;".repeat(3) + "hat 20 3;");
        for (int g = 0; g < 6; g++) {
            x.go(g, g);
        }
        for (int h = 0; h < 4; h++) {
            x.lend(h, h);
        }
        x.law(1);
        long given = 0;
        int calls = 0;
        for (int n : new int[] {99, 20, 4, 1}) {
            // a day gives less than 77000: four bells of 4 times 4797
            while (given + n * 77000L < MOST) {
                given += x.drift(n);
                calls++;
            }
        }
        for (int g = 1; g < 6; g++) {
            x.go(g, Due.NONE);
        }
        int[] spots = {0, 4};
        int[] mostThere = {4797, 200};
        for (int i = 0; i < spots.length; i++) {
            x.go(0, spots[i]);
            while (given + mostThere[i] < MOST) {
                given += x.ring(0);
                calls++;
            }
        }
        x.law(2);
        while (given + 50 < MOST) {
            given += x.ring(0);
            calls++;
        }
        Due.is("few calls were needed", calls < 400 ? 1 : 0, 1);
        Due.is("GIVEN", x.told(8), given);
        Due.is("the PURSE", x.beggar(0, 4), given);
        beyondTheEndOfMoney(x);
        upToTheEndOfMoney(x, (int) (MOST - given));
    }

    /** Beggar 0 stands alone, has 50 at a bell, and less than that is left to the end of his PURSE and of GIVEN. */
    private static void beyondTheEndOfMoney(ShadowAlms x) {
        x.keep(0);
        Due.is("50 is given", x.ring(0), 50);
        moneyIs(x, MOST, MOST);
        Due.is("50 is given again", x.ring(0), 50);
        moneyIs(x, MOST, MOST);
        x.goBack(0);
    }

    private static void upToTheEndOfMoney(ShadowAlms x, int left) {
        x.go(0, 5);
        for (int i = left - 1; i >= 0; i--) {
            Due.is("one is given", x.ring(0), 1);
            moneyIs(x, MOST - i, MOST - i);
        }
        Due.is("one beyond is given", x.ring(0), 1);
        moneyIs(x, MOST, MOST);
        // what one bell gives and what the hat costs come to the PURSE together, and GIVEN does not go back
        x.lend(0, Due.NONE);
        x.lend(3, 0);
        Due.is("one is given for a hat of 3", x.ring(0), 1);
        moneyIs(x, MOST - 2, MOST);
        x.go(0, 4);
        Due.is("50 by law 2", x.ring(0), 50);
        moneyIs(x, MOST, MOST);
        x.seed(0);
        Due.is("drift answers what is given", x.drift(1) > 0 ? 1 : 0, 1);
        Due.is("though GIVEN stands", x.told(8), MOST);
    }

    private static void moneyIs(ShadowAlms x, int purse, int given) {
        Due.is("PURSE near its end", x.beggar(0, 4), purse);
        Due.is("GIVEN near its end", x.told(8), given);
    }

    /** "NOT: no BEGGARS, no SPOTS" */
    private static void driftWithoutSome() {
        Due.is("neither", Due.squareOf("bell 10 0;").drift(1), Due.NOT);
        Due.is("no BEGGARS", Due.squareOf("bell 10 0;spot 0 0 0;").drift(1), Due.NOT);
        Due.is("no SPOTS", Due.squareOf("bell 10 0;beggar 1;").drift(1), Due.NOT);
        ShadowAlms x = Due.squareOf("spot 0 0 0;beggar 1;");
        Due.is("no BELLS: nothing is given", x.drift(99), 0);
        Due.is("but days pass", x.told(6), 99);
        Due.is("and he has come", x.beggar(0, 1), 0);
    }
}
