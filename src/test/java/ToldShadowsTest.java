/** Promises 23 to 27: tell, fits, write, tear, judge. */
public final class ToldShadowsTest {
    private static final String TEXT = "year 10;bell 5 2;bell 20 0;spot 4 0 0;spot 0 5 0;spot 10 0 30;"
        + "beggar 50;beggar 60;beggar 40;beggar 55;hat 10 4;hat 5 20;";

    public static void main(String[] args) {
        telling();
        fitting();
        fittingEdges();
        writing();
        tearing();
        judging();
        Due.end();
    }

    private static void telling() {
        ShadowAlms x = Due.squareOf(TEXT);
        Due.is("tell day 0", x.tell(0, 0, 0, 0), 1);
        Due.is("tell day 999", x.tell(1, 999, 2, 999), 2);
        Due.is("tell day -1", x.tell(0, -1, 0, 0), Due.OUTSIDE);
        Due.is("tell day 1000", x.tell(0, 1000, 0, 0), Due.OUTSIDE);
        Due.is("tell inches -1", x.tell(0, 0, 0, -1), Due.OUTSIDE);
        Due.is("tell inches 1000", x.tell(0, 0, 0, 1000), Due.OUTSIDE);
        Due.is("tell bell 2", x.tell(2, 0, 0, 0), Due.UNKNOWN);
        Due.is("tell bell -1", x.tell(-1, 0, 0, 0), Due.UNKNOWN);
        Due.is("tell spot 3", x.tell(0, 0, 3, 0), Due.UNKNOWN);
        Due.is("tell spot -1", x.tell(0, 0, -1, 0), Due.UNKNOWN);
        Due.is("tell spot 3 day -1", x.tell(0, -1, 3, 0), Due.UNKNOWN);
        Due.is("two told", x.told(9), 2);
        for (int i = 3; i <= 10; i++) {
            Due.is("tell", x.tell(0, 0, 0, 0), i);
        }
        Due.is("tell the 11th", x.tell(0, 0, 0, 0), Due.FULL);
        Due.is("tell the 11th outside", x.tell(0, 0, 0, 1000), Due.OUTSIDE);
        Due.is("tell the 11th unknown", x.tell(0, 0, 3, 0), Due.UNKNOWN);
        Due.is("ten told", x.told(9), 10);
        Due.is("no book", x.told(10), 0);
    }

    private static void fitsAre(ShadowAlms x, int many, int least, int greatest) {
        Due.is("fits how many", x.fits(0), many);
        Due.is("fits the least", x.fits(1), least);
        Due.is("fits the greatest", x.fits(2), greatest);
    }

    private static void fitting() {
        ShadowAlms x = Due.squareOf(TEXT);
        fitsAre(x, 110, 1, 110);
        // who stands on the square now is not there for what is told
        x.go(1, 0);
        x.go(2, 1);
        // spot 1: half of 2 * TALL, cut: TALL itself
        x.tell(1, 0, 1, 40);
        fitsAre(x, 1, 40, 40);
        x.tear();
        // bell 0 on day 0: (t + 4) * 5 / 10 is 30 for t 56 and 57
        x.tell(0, 0, 0, 30);
        fitsAre(x, 2, 56, 57);
        // on day 5: (t + 4) * 15 / 10 is 91 for t 57 alone (61 * 15 is 915)
        x.tell(0, 5, 0, 91);
        fitsAre(x, 1, 57, 57);
        x.tell(0, 995, 0, 91);
        fitsAre(x, 1, 57, 57);
        x.tell(0, 996, 0, 91);
        fitsAre(x, 0, Due.NONE, Due.NONE);
        x.tear();
        // the wall of 30: (t + 10) * 2 is 30 or more for t 5 on
        x.tell(1, 0, 2, 30);
        fitsAre(x, 106, 5, 110);
        x.tear();
        x.tell(1, 0, 2, 31);
        fitsAre(x, 0, Due.NONE, Due.NONE);
    }

    private static void fittingEdges() {
        ShadowAlms x = Due.squareOf("bell 10 0;bell 1 0;spot 0 0 0;spot 20 0 0;");
        x.tell(0, 0, 0, 1);
        fitsAre(x, 1, 1, 1);
        x.tear();
        x.tell(0, 0, 0, 110);
        fitsAre(x, 1, 110, 110);
        x.tear();
        x.tell(0, 0, 0, 111);
        fitsAre(x, 0, Due.NONE, Due.NONE);
        x.tear();
        x.tell(0, 0, 0, 0);
        fitsAre(x, 0, Due.NONE, Due.NONE);
        x.tear();
        x.tell(0, 0, 1, 130);
        fitsAre(x, 1, 110, 110);
        x.tear();
        x.tell(1, 0, 0, 0);
        fitsAre(x, 9, 1, 9);
        x.tell(1, 0, 1, 2);
        fitsAre(x, 9, 1, 9);
        x.tell(0, 0, 0, 4);
        fitsAre(x, 1, 4, 4);
        Due.is("fits what 3", x.fits(3), Due.OUTSIDE);
        Due.is("fits what -1", x.fits(-1), Due.OUTSIDE);
        // told is by THE SQUARE, not by THE DAY or LAW
        x.law(2);
        x.day(3);
        fitsAre(x, 1, 4, 4);
    }

    private static void writing() {
        ShadowAlms x = Due.squareOf(TEXT);
        Due.is("write -999", x.write(0, 0, -999), 1);
        Due.is("write 99999", x.write(1, 3, 99999), 2);
        Due.is("write -1000", x.write(0, 0, -1000), Due.OUTSIDE);
        Due.is("write 100000", x.write(0, 0, 100000), Due.OUTSIDE);
        Due.is("write bell 2", x.write(2, 0, 0), Due.UNKNOWN);
        Due.is("write bell -1", x.write(-1, 0, 0), Due.UNKNOWN);
        Due.is("write beggar 4", x.write(0, 4, 0), Due.UNKNOWN);
        Due.is("write beggar -1", x.write(0, -1, 0), Due.UNKNOWN);
        Due.is("write beggar 4, 100000", x.write(0, 4, 100000), Due.UNKNOWN);
        Due.is("two entries", x.told(10), 2);
        for (int i = 3; i <= 30; i++) {
            Due.is("write", x.write(0, 0, 0), i);
        }
        Due.is("write the 31st", x.write(0, 0, 0), Due.FULL);
        Due.is("write the 31st outside", x.write(0, 0, 100000), Due.OUTSIDE);
        Due.is("write the 31st unknown", x.write(2, 0, 0), Due.UNKNOWN);
        Due.is("thirty entries", x.told(10), 30);
        Due.is("nothing told", x.told(9), 0);
    }

    private static void tearing() {
        ShadowAlms x = Due.squareOf(TEXT);
        Due.is("tear nothing", x.tear(), 0);
        x.tell(0, 0, 0, 1);
        x.write(0, 0, 1);
        x.write(0, 0, 2);
        Due.is("tear both", x.tear(), 3);
        Due.is("nothing told", x.told(9), 0);
        Due.is("no book", x.told(10), 0);
        Due.is("all fit again", x.fits(0), 110);
        Due.is("nothing is wrong", x.judge(), Due.NONE);
        Due.is("tear again", x.tear(), 0);
    }

    private static void judging() {
        ShadowAlms x = Due.squareOf(TEXT);
        Due.is("judge an empty book", x.judge(), Due.NONE);
        x.go(0, 0);
        x.lend(1, 1);
        x.write(1, 0, 108);
        x.write(0, 0, 27);
        x.write(1, 1, -20);
        Due.is("all is so", x.judge(), Due.NONE);
        x.go(1, 1);
        Due.is("the third is not", x.judge(), 2);
        x.day(1);
        Due.is("on another day the second", x.judge(), 1);
        x.law(2);
        Due.is("by another law the first", x.judge(), 0);
        x.law(0);
        x.day(9);
        x.go(1, Due.NONE);
        Due.is("a year on all is so", x.judge(), Due.NONE);
        for (int i = 3; i < 29; i++) {
            x.write(1, 2, 0);
        }
        x.write(1, 2, 1);
        Due.is("the last one", x.judge(), 29);
    }
}
