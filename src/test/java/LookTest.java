/** Promises 6 to 10: bell, spot, beggar, hat, shadow. */
public final class LookTest {
    private static final String TEXT = "year 10;bell 5 2;bell 20 0;spot 4 0 0;spot 0 5 0;spot 10 0 30;"
        + "beggar 50;beggar 60;beggar 40;beggar 55;hat 10 4;hat 5 20;";

    public static void main(String[] args) {
        bells();
        spots();
        beggars();
        hats();
        shadowsAreCut();
        shadowsInFront();
        almsByLaws();
        shadowRefusals();
        Due.end();
    }

    private static void bells() {
        ShadowAlms x = Due.squareOf("year 10;bell 5 2;bell 20 0;");
        int[] even = {5, 7, 9, 11, 13, 15, 13, 11, 9, 7, 5, 7};
        for (int day = 0; day < even.length; day++) {
            Due.is("even year, day " + day, x.bell(0, day), even[day]);
            Due.is("flat bell, day " + day, x.bell(1, day), 20);
        }
        Due.is("last day", x.bell(0, 99999), 7);
        Due.is("day 100000", x.bell(0, 100000), Due.OUTSIDE);
        Due.is("day -1", x.bell(0, -1), Due.OUTSIDE);
        Due.is("bell 2", x.bell(2, 0), Due.UNKNOWN);
        Due.is("bell -1", x.bell(-1, 0), Due.UNKNOWN);
        Due.is("bell 2 on day -1", x.bell(2, -1), Due.UNKNOWN);
        ShadowAlms odd = Due.squareOf("year 5;bell 0 9;");
        int[] longOdd = {0, 9, 18, 18, 9, 0};
        for (int day = 0; day < longOdd.length; day++) {
            Due.is("odd year, day " + day, odd.bell(0, day), longOdd[day]);
        }
        ShadowAlms one = Due.squareOf("year 1;bell 3 9;");
        Due.is("a year of one day", one.bell(0, 17), 3);
        ShadowAlms untold = Due.squareOf("bell 0 1;");
        Due.is("the middle of 12", untold.bell(0, 6), 6);
        Due.is("day 12 of 12", untold.bell(0, 12), 0);
    }

    private static void spots() {
        ShadowAlms x = Due.squareOf(TEXT);
        x.go(2, 1);
        int[][] want = {{4, 0, 0, Due.NONE}, {0, 5, 0, 2}, {10, 0, 30, Due.NONE}};
        for (int s = 0; s < 3; s++) {
            for (int what = 0; what < 4; what++) {
                Due.is("spot(" + s + ", " + what + ")", x.spot(s, what), want[s][what]);
            }
        }
        Due.is("spot what 4", x.spot(0, 4), Due.OUTSIDE);
        Due.is("spot what -1", x.spot(0, -1), Due.OUTSIDE);
        Due.is("spot 3", x.spot(3, 0), Due.UNKNOWN);
        Due.is("spot -1", x.spot(-1, 0), Due.UNKNOWN);
        Due.is("spot 3 what 9", x.spot(3, 9), Due.UNKNOWN);
    }

    private static void beggars() {
        ShadowAlms x = Due.squareOf(TEXT);
        Due.is("TALL nowhere", x.beggar(0, 3), 50);
        x.lend(1, 0);
        Due.is("TALL with a hat", x.beggar(0, 3), 55);
        x.go(0, 2);
        int[] want = {50, 2, 1, 65, 0};
        for (int what = 0; what < want.length; what++) {
            Due.is("beggar(0, " + what + ")", x.beggar(0, what), want[what]);
        }
        Due.is("another's SPOT", x.beggar(3, 1), Due.NONE);
        Due.is("another's HAT", x.beggar(3, 2), Due.NONE);
        x.ring(1);
        Due.is("PURSE", x.beggar(0, 4), 10);
        Due.is("beggar what 5", x.beggar(0, 5), Due.OUTSIDE);
        Due.is("beggar what -1", x.beggar(0, -1), Due.OUTSIDE);
        Due.is("beggar 4", x.beggar(4, 0), Due.UNKNOWN);
        Due.is("beggar -1", x.beggar(-1, 0), Due.UNKNOWN);
        Due.is("beggar 4 what 5", x.beggar(4, 5), Due.UNKNOWN);
    }

    private static void hats() {
        ShadowAlms x = Due.squareOf(TEXT);
        x.lend(0, 3);
        int[][] want = {{10, 4, 3}, {5, 20, Due.NONE}};
        for (int h = 0; h < 2; h++) {
            for (int what = 0; what < 3; what++) {
                Due.is("hat(" + h + ", " + what + ")", x.hat(h, what), want[h][what]);
            }
        }
        Due.is("hat what 3", x.hat(0, 3), Due.OUTSIDE);
        Due.is("hat what -1", x.hat(0, -1), Due.OUTSIDE);
        Due.is("hat 2", x.hat(2, 0), Due.UNKNOWN);
        Due.is("hat -1", x.hat(-1, 0), Due.UNKNOWN);
        Due.is("hat 2 what 3", x.hat(2, 3), Due.UNKNOWN);
    }

    private static void shadowsAreCut() {
        // 37 high: 37 * 7 / 10 is 25, of that 3 tenths less is 17 (each cut on its own), the wall leaves 16
        ShadowAlms x = Due.squareOf("bell 7 0;bell 99 0;bell 0 0;spot 0 0 0;spot 0 3 0;spot 0 3 16;spot 0 3 17;spot 0 9 0;beggar 37;");
        Due.is("nowhere", x.shadow(0, 0, 0), 0);
        int[] want = {25, 17, 16, 17, 2};
        int[] wantLong = {366, 256, 16, 17, 36};
        for (int s = 0; s < want.length; s++) {
            x.go(0, s);
            Due.is("shadow on spot " + s, x.shadow(0, 0, 0), want[s]);
            Due.is("long shadow on spot " + s, x.shadow(1, 0, 0), wantLong[s]);
            Due.is("no shadow on spot " + s, x.shadow(2, 0, 0), 0);
        }
        ShadowAlms tallest = Due.squareOf("year 60;bell 99 9;spot 20 0 0;beggar 90;hat 20 0;");
        tallest.go(0, 0);
        tallest.lend(0, 0);
        tallest.day(30);
        Due.is("the longest of all", tallest.shadow(0, 0, 0), 4797);
        tallest.day(30);
        Due.is("a year on", tallest.shadow(0, 0, 0), 1287);
    }

    private static void shadowsInFront() {
        ShadowAlms x = Due.squareOf("bell 10 0;spot 0 0 0;spot 3 0 0;spot 0 0 0;beggar 10;beggar 8;beggar 6;hat 1 0;hat 2 0;");
        x.go(0, 0);
        x.go(1, 1);
        x.go(2, 2);
        Due.is("steps raise", x.shadow(0, 1, 0), 11);
        Due.is("in the shade", x.shadow(0, 2, 0), 0);
        x.lend(0, 0);
        Due.is("as tall as he in front", x.shadow(0, 1, 0), 11);
        x.lend(0, Due.NONE);
        x.lend(1, 0);
        Due.is("by a hat in front", x.shadow(0, 1, 0), 0);
        Due.is("one without a shadow shades too", x.shadow(0, 2, 0), 0);
        x.go(1, Due.NONE);
        Due.is("only the next spot shades", x.shadow(0, 2, 0), 6);
        Due.is("nobody shades the first", x.shadow(0, 0, 0), 12);
        x.go(0, 1);
        x.go(2, 0);
        Due.is("who stands behind shades not", x.shadow(0, 2, 0), 6);
    }

    private static void almsByLaws() {
        ShadowAlms x = Due.squareOf("bell 10 0;spot 0 0 0;spot 0 0 0;spot 0 0 60;beggar 60;beggar 60;beggar 70;beggar 5;hat 20 7;hat 1 50;");
        x.go(1, 0);
        x.go(0, 1);
        x.go(2, 2);
        x.lend(1, 3);
        x.lend(0, 2);
        int[][] want = {{60, 60, 53, -50}, {180, 0, -7, -50}, {50, 50, 43, -50}};
        for (int law = 0; law < 3; law++) {
            x.law(law);
            for (int g = 0; g < 4; g++) {
                Due.is("ALMS of " + g + " by law " + law, x.shadow(0, g, 1), want[law][g]);
            }
            Due.is("SHADOW by law " + law, x.shadow(0, 1, 0), 60);
        }
        x.law(1);
        x.go(0, Due.NONE);
        Due.is("the least of like ones who stand", x.shadow(0, 1, 1), 120);
        Due.is("who stands nowhere", x.shadow(0, 0, 1), 0);
        x.lend(0, 0);
        Due.is("he pays for his hat", x.shadow(0, 0, 1), -7);
        ShadowAlms none = Due.squareOf("bell 0 0;spot 0 0 0;beggar 9;hat 1 3;");
        none.law(1);
        none.go(0, 0);
        none.lend(0, 0);
        Due.is("a hat without a shadow", none.shadow(0, 0, 1), -3);
    }

    private static void shadowRefusals() {
        ShadowAlms x = Due.squareOf(TEXT);
        Due.is("shadow what 2", x.shadow(0, 0, 2), Due.OUTSIDE);
        Due.is("shadow what -1", x.shadow(0, 0, -1), Due.OUTSIDE);
        Due.is("shadow bell 2", x.shadow(2, 0, 0), Due.UNKNOWN);
        Due.is("shadow bell -1", x.shadow(-1, 0, 0), Due.UNKNOWN);
        Due.is("shadow beggar 4", x.shadow(0, 4, 0), Due.UNKNOWN);
        Due.is("shadow beggar -1", x.shadow(0, -1, 0), Due.UNKNOWN);
        Due.is("shadow bell 2 what 2", x.shadow(2, 0, 2), Due.UNKNOWN);
        Due.is("shadow beggar 4 what 2", x.shadow(0, 4, 2), Due.UNKNOWN);
    }
}
