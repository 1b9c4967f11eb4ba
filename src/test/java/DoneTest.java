/** Promises 11 to 16: go, lend, law, ring, day, drift. */
public final class DoneTest {
    private static final String TEXT = "year 10;bell 5 2;bell 20 0;spot 4 0 0;spot 0 5 0;spot 10 0 30;"
        + "beggar 50;beggar 60;beggar 40;beggar 55;hat 10 4;hat 5 20;";

    public static void main(String[] args) {
        going();
        lending();
        laws();
        ringing();
        moneyHasAnEnd();
        days();
        drifting();
        cloudsAndGoing();
        driftRefusals();
        Due.end();
    }

    private static void going() {
        ShadowAlms x = Due.squareOf(TEXT);
        Due.is("go in", x.go(0, 1), Due.NONE);
        Due.is("go where he is", x.go(0, 1), 1);
        Due.is("go on", x.go(0, 2), 1);
        Due.is("the old spot is free", x.spot(1, 3), Due.NONE);
        Due.is("the new one is not", x.spot(2, 3), 0);
        Due.is("go where another is", x.go(1, 2), Due.NOT);
        Due.is("he is where he was", x.beggar(1, 1), Due.NONE);
        Due.is("away", x.go(0, Due.NONE), 2);
        Due.is("away again", x.go(0, Due.NONE), Due.NONE);
        Due.is("now it is free", x.go(1, 2), Due.NONE);
        Due.is("go beggar 4", x.go(4, 0), Due.UNKNOWN);
        Due.is("go beggar -1", x.go(-1, 0), Due.UNKNOWN);
        Due.is("go spot 3", x.go(0, 3), Due.UNKNOWN);
        Due.is("go spot -2", x.go(0, -2), Due.UNKNOWN);
        Due.is("go beggar 4 where another is", x.go(4, 2), Due.UNKNOWN);
    }

    private static void lending() {
        ShadowAlms x = Due.squareOf(TEXT);
        Due.is("lend", x.lend(0, 1), Due.NONE);
        Due.is("lend to who has it", x.lend(0, 1), 1);
        Due.is("a second hat", x.lend(1, 1), Due.NOT);
        Due.is("it stays free", x.hat(1, 2), Due.NONE);
        Due.is("from one to another", x.lend(0, 2), 1);
        Due.is("the first is bare", x.beggar(1, 2), Due.NONE);
        Due.is("back", x.lend(0, Due.NONE), 2);
        Due.is("back again", x.lend(0, Due.NONE), Due.NONE);
        Due.is("to one who stands nowhere", x.lend(1, 2), Due.NONE);
        Due.is("lend hat 2", x.lend(2, 0), Due.UNKNOWN);
        Due.is("lend hat -1", x.lend(-1, 0), Due.UNKNOWN);
        Due.is("lend to 4", x.lend(0, 4), Due.UNKNOWN);
        Due.is("lend to -2", x.lend(0, -2), Due.UNKNOWN);
        Due.is("lend hat 2 to who has one", x.lend(2, 2), Due.UNKNOWN);
        ShadowAlms all = Due.squareOf("beggar 1;beggar 2;beggar 3;beggar 4;beggar 5;beggar 6;hat 1 1;hat 2 1;hat 3 1;hat 4 1;");
        for (int h = 0; h < 4; h++) {
            all.lend(h, 5 - h);
        }
        all.keep(0);
        for (int h = 0; h < 4; h++) {
            Due.is("all hats: " + h, all.beggar(5 - h, 2), h);
            Due.is("all hats, TALL: " + h, all.beggar(5 - h, 3), 7);
            Due.is("a second one beside " + h, all.lend((h + 1) % 4, 5 - h), Due.NOT);
            all.lend(h, Due.NONE);
        }
        all.goBack(0);
        for (int h = 0; h < 4; h++) {
            Due.is("all hats by an image: " + h, all.hat(h, 2), 5 - h);
        }
    }

    private static void laws() {
        ShadowAlms x = new ShadowAlms();
        Due.is("law 2", x.law(2), 0);
        Due.is("law 3", x.law(3), Due.OUTSIDE);
        Due.is("law -1", x.law(-1), Due.OUTSIDE);
        Due.is("law is", x.told(7), 2);
        Due.is("law 1", x.law(1), 2);
        Due.is("law 0", x.law(0), 1);
    }

    private static void ringing() {
        ShadowAlms x = Due.squareOf(TEXT);
        x.go(0, 0);
        x.go(1, 1);
        x.lend(1, 1);
        x.lend(0, 3);
        // bell 1: 54 * 20 / 10 is 108; 65 * 20 / 10 is 130, half of it 65
        Due.is("ring", x.ring(1), 173);
        int[] purses = {108, 45, 0, -4};
        for (int g = 0; g < 4; g++) {
            Due.is("PURSE of " + g, x.beggar(g, 4), purses[g]);
        }
        Due.is("GIVEN", x.told(8), 173);
        x.law(2);
        Due.is("ring by law 2", x.ring(1), 100);
        x.law(1);
        Due.is("ring by law 1", x.ring(1), 173);
        Due.is("PURSE of 0 then", x.beggar(0, 4), 108 + 50 + 173);
        Due.is("PURSE of 1 then", x.beggar(1, 4), 45 + 30 - 20);
        Due.is("PURSE of 3 then", x.beggar(3, 4), -12);
        Due.is("GIVEN then", x.told(8), 446);
        Due.is("THE DAY stays", x.told(6), 0);
        Due.is("ring 2", x.ring(2), Due.UNKNOWN);
        Due.is("ring -1", x.ring(-1), Due.UNKNOWN);
        Due.is("GIVEN stays", x.told(8), 446);
        x.law(0);
        x.day(5);
        Due.is("ring by THE DAY", x.ring(0), 81 + 48);
        ShadowAlms empty = Due.squareOf("bell 9 9;");
        Due.is("ring for nobody", empty.ring(0), 0);
    }

    private static void moneyHasAnEnd() {
        ShadowAlms x = Due.squareOf("year 60;bell 99 9;bell 99 9;bell 99 9;bell 99 9;"
            + "spot 20 0 0;spot 20 0 0;spot 20 0 0;spot 20 0 0;spot 20 0 0;spot 20 0 0;"
            + "beggar 90;beggar 90;beggar 90;beggar 90;beggar 90;beggar 90;hat 1 3;");
        for (int g = 0; g < 6; g++) {
            x.go(g, g);
        }
        x.law(1);
        long sum = 0;
        for (int i = 0; i < 300; i++) {
            sum += x.drift(99);
        }
        Due.is("enough was given", sum > 999999999L ? 1 : 0, 1);
        Due.is("GIVEN has an end", x.told(8), 999999999);
        Due.is("a PURSE has an end", x.beggar(0, 4), 999999999);
        Due.is("another one is empty", x.beggar(1, 4), 0);
        Due.is("what is given goes on", x.ring(0), 6 * (110 * x.bell(0, x.told(6)) / 10));
        Due.is("GIVEN is as it was", x.told(8), 999999999);
        x.go(0, Due.NONE);
        x.lend(0, 0);
        x.ring(0);
        Due.is("a full PURSE pays", x.beggar(0, 4), 999999996);
        Due.is("the next one has", x.beggar(1, 4), 5 * (110 * x.bell(0, x.told(6)) / 10));
    }

    private static void days() {
        ShadowAlms x = Due.squareOf(TEXT);
        x.go(0, 0);
        Due.is("a day", x.day(1), 1);
        Due.is("99 days", x.day(99), 100);
        Due.is("no days", x.day(0), Due.OUTSIDE);
        Due.is("-1 days", x.day(-1), Due.OUTSIDE);
        Due.is("100 days", x.day(100), Due.OUTSIDE);
        Due.is("THE DAY", x.told(6), 100);
        Due.is("no BELLS", x.told(8), 0);
    }

    /** The draws of the document, told once more here. */
    private static int seed;

    private static int draw(int n) {
        seed = (int) ((seed * 1103515245L + 12345L) % 2147483648L);
        return seed / 65536 % n;
    }

    private static void drifting() {
        // one beggar on the one spot: he never goes, and each bell that rings gives what it shows
        ShadowAlms x = Due.squareOf("year 6;bell 10 1;bell 30 0;spot 0 0 0;beggar 10;hat 1 2;");
        x.go(0, 0);
        x.lend(0, 0);
        x.seed(20260101);
        seed = 20260101;
        int given = 0;
        int rung = 0;
        for (int day = 0; day < 99; day++) {
            if (draw(4) != 0) {
                given += 11 * x.bell(0, day) / 10;
                rung++;
            }
            if (draw(4) != 0) {
                given += 33;
                rung++;
            }
            draw(1);
            draw(1);
        }
        Due.is("drift(99)", x.drift(99), given);
        Due.is("THE DAY", x.told(6), 99);
        Due.is("GIVEN", x.told(8), given);
        Due.is("PURSE", x.beggar(0, 4), given - 2 * rung);
        Due.is("THE SEED", x.seed(0), seed);
        Due.is("it is on his spot", x.beggar(0, 1), 0);
    }

    private static void cloudsAndGoing() {
        ShadowAlms x = Due.squareOf("spot 0 0 0;spot 0 0 0;spot 0 0 0;beggar 1;beggar 2;");
        seed = 0;
        int[] where = {Due.NONE, Due.NONE};
        for (int day = 0; day < 60; day++) {
            Due.is("drift without bells", x.drift(1), 0);
            int g = draw(2);
            int s = draw(3);
            if (where[0] != s && where[1] != s) {
                where[g] = s;
            }
            Due.is("SPOT of 0 on day " + day, x.beggar(0, 1), where[0]);
            Due.is("SPOT of 1 on day " + day, x.beggar(1, 1), where[1]);
        }
        Due.is("THE DAY", x.told(6), 60);
    }

    private static void driftRefusals() {
        ShadowAlms x = Due.squareOf(TEXT);
        x.seed(5);
        Due.is("drift 0", x.drift(0), Due.OUTSIDE);
        Due.is("drift -1", x.drift(-1), Due.OUTSIDE);
        Due.is("drift 100", x.drift(100), Due.OUTSIDE);
        ShadowAlms noSpots = Due.squareOf("bell 1 1;beggar 1;");
        Due.is("no SPOTS", noSpots.drift(1), Due.NOT);
        Due.is("no SPOTS, 100 days", noSpots.drift(100), Due.OUTSIDE);
        ShadowAlms noBeggars = Due.squareOf("bell 1 1;spot 0 0 0;");
        Due.is("no BEGGARS", noBeggars.drift(1), Due.NOT);
        Due.is("no day went", noBeggars.told(6), 0);
        Due.is("no draw was", noBeggars.seed(0), 0);
        Due.is("nor there", x.seed(0), 5);
    }
}
