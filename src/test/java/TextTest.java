/** Promises 1 to 5: a new object, feed, square, fault, told. */
public final class TextTest {
    private static final String FOUR_BELLS = "bell 1 1;bell 1 1;bell 1 1;bell 1 1;";
    private static final String SIX_SPOTS = "spot 0 0 0;spot 0 0 0;spot 0 0 0;spot 0 0 0;spot 0 0 0;spot 0 0 0;";
    private static final String SIX_BEGGARS = "beggar 1;beggar 1;beggar 1;beggar 1;beggar 1;beggar 1;";
    private static final String FOUR_HATS = "hat 1 1;hat 1 1;hat 1 1;hat 1 1;";

    public static void main(String[] args) {
        newObject();
        feeding();
        goodTexts();
        numbersAreTaken();
        wordsThatCannot();
        signsThatCannot();
        ends();
        anEarlierTextIsGone();
        numbersOutOfBounds();
        numbersTooLong();
        tooMany();
        leastFaultAndFirstPlace();
        aFaultLeavesAllElse();
        aSquareStartsAnew();
        toldOutside();
        Due.end();
    }

    private static void newObject() {
        ShadowAlms x = new ShadowAlms();
        Due.is("new told(0)", x.told(0), 12);
        for (int what = 1; what <= 10; what++) {
            Due.is("new told(" + what + ")", x.told(what), 0);
        }
        Due.is("new fault", x.fault(), Due.NONE);
        Due.is("new bell", x.bell(0, 0), Due.UNKNOWN);
        Due.is("new spot", x.spot(0, 0), Due.UNKNOWN);
        Due.is("new beggar", x.beggar(0, 0), Due.UNKNOWN);
        Due.is("new hat", x.hat(0, 0), Due.UNKNOWN);
        Due.is("new seed", x.seed(0), 0);
        Due.is("new goBack", x.goBack(0), Due.NOT);
    }

    private static void feeding() {
        ShadowAlms x = new ShadowAlms();
        Due.is("feed n 0", x.feed(0, 0L), Due.OUTSIDE);
        Due.is("feed n 9", x.feed(9, 0L), Due.OUTSIDE);
        Due.is("feed n -1", x.feed(-1, 0L), Due.OUTSIDE);
        Due.is("feed n least", x.feed(Integer.MIN_VALUE, 0L), Due.OUTSIDE);
        Due.is("feed n greatest", x.feed(Integer.MAX_VALUE, 0L), Due.OUTSIDE);
        Due.is("nothing fed", x.told(5), 0);
        // only the lowest n bytes count: what is above them is no part of the text
        Due.is("feed 1", x.feed(1, 0x7a7a7a7a7a7a7a20L), 1);
        Due.is("feed 3", x.feed(3, 0x7a7a7a7a7a686174L), 4);
        Due.is("feed 8", x.feed(8, 0x202031322033343bL), 12);
        Due.is("square of ' hat  12 34;'", x.square(), 0);
        Due.is("hat H", x.hat(0, 0), 12);
        Due.is("hat C", x.hat(0, 1), 34);
        for (int i = 1; i <= 62; i++) {
            Due.is("feed to 496", x.feed(8, 0x2020202020202020L), 8 * i);
        }
        Due.is("feed 5 of 496", x.feed(5, 0L), Due.FULL);
        Due.is("feed 9 of 496", x.feed(9, 0L), Due.OUTSIDE);
        Due.is("still 496", x.told(5), 496);
        Due.is("feed 4 of 496", x.feed(4, 0x20202020L), 500);
        Due.is("feed 1 of 500", x.feed(1, 32L), Due.FULL);
        Due.is("feed 0 of 500", x.feed(0, 32L), Due.OUTSIDE);
        Due.is("500 told", x.told(5), 500);
        Due.is("500 blanks", x.square(), 0);
        Due.is("empty again", x.told(5), 0);
        Due.is("fault of blanks", x.fault(), Due.NONE);
    }

    private static void good(String text, int beggars) {
        fault(text, 0, Due.NONE, beggars);
    }

    private static void bad(String text, int number, int place) {
        fault(text, number, place, 0);
    }

    private static void fault(String text, int number, int place, int beggars) {
        ShadowAlms x = new ShadowAlms();
        Due.feed(x, text);
        Due.is("bytes of '" + text + "'", x.told(5), text.length());
        Due.is("square() of '" + text + "'", x.square(), number == 0 ? beggars : -10 - number);
        Due.is("fault() of '" + text + "'", x.fault(), place);
        Due.is("text is empty behind '" + text + "'", x.told(5), 0);
    }

    private static void goodTexts() {
        good("", 0);
        good("   ", 0);
        good("beggar 1;", 1);
        good("beggar1;beggar90;", 2);
        good("  beggar  7  ;  beggar 8 ; ", 2);
        good("year60;bell99 9;spot20 9 200;beggar90;hat20 50;", 1);
        good("year 1;bell 0 0;spot 0 0 0;beggar 1;hat 1 0;", 1);
        good("year 001;bell 007 009;spot 020 009 200;beggar 090;hat 020 050;", 1);
        good("hat 1 1;beggar 1;spot 0 0 0;bell 1 1;hat 2 2;beggar 2;", 2);
        good("year 5;" + FOUR_BELLS + SIX_SPOTS + SIX_BEGGARS + FOUR_HATS, 6);
    }

    private static void numbersAreTaken() {
        ShadowAlms x = Due.squareOf("year 60;bell 98 7;spot 19 8 200;spot 3 2 1;beggar 45;beggar 9;hat 13 49;");
        Due.is("N", x.told(0), 60);
        Due.is("BELLS", x.told(1), 1);
        Due.is("SPOTS", x.told(2), 2);
        Due.is("BEGGARS", x.told(3), 2);
        Due.is("HATS", x.told(4), 1);
        Due.is("L", x.bell(0, 0), 98);
        Due.is("L and S", x.bell(0, 1), 105);
        Due.is("A", x.spot(0, 0), 19);
        Due.is("M", x.spot(0, 1), 8);
        Due.is("W", x.spot(0, 2), 200);
        Due.is("A of 1", x.spot(1, 0), 3);
        Due.is("M of 1", x.spot(1, 1), 2);
        Due.is("W of 1", x.spot(1, 2), 1);
        Due.is("T", x.beggar(0, 0), 45);
        Due.is("T of 1", x.beggar(1, 0), 9);
        Due.is("H", x.hat(0, 0), 13);
        Due.is("C", x.hat(0, 1), 49);
        x = Due.squareOf("beggar 5;");
        Due.is("N untold", x.told(0), 12);
    }

    private static void wordsThatCannot() {
        bad("lamp 1;", 1, 0);
        bad("years 1;", 1, 0);
        bad("yea", 1, 0);
        bad("bel", 1, 0);
        bad("  spots", 1, 2);
        bad("bellspot 1 1;", 1, 0);
        bad("bellz 1 1;", 1, 0);
        bad("abell 1 1;", 1, 0);
        bad("beggar 1;begga", 1, 9);
        bad("beggar beggar 1;", 1, 7);
        bad("bell 1 spot", 1, 7);
        bad("bell 1 1 spot", 1, 9);
        bad("bell 1 1;year 5;", 1, 9);
        bad("hat 1 1;year 5;", 1, 8);
        bad("beggar 1;year 5;", 1, 9);
        bad("spot 1 1 1;  year 5;", 1, 13);
        bad("beLl 1 1;", 1, 0);
        bad("hat 1 1;hat", 1, 11);
    }

    private static void signsThatCannot() {
        bad(";", 1, 0);
        bad("beggar 1;;", 1, 9);
        bad("5", 1, 0);
        bad("1234 bell", 1, 0);
        bad("beggar 1 2;", 1, 9);
        bad("beggar 1 1234;", 1, 9);
        bad("beggar;", 1, 6);
        bad("bell 1;", 1, 6);
        bad("bell 1,1;", 1, 6);
        bad("bell -1 1;", 1, 5);
        bad("Bell 1 1;", 1, 0);
        bad("bell\t1 1;", 1, 4);
        bad("beggar 1;\n", 1, 9);
        bad("beggar 1" + (char) 0 + ";", 1, 8);
        bad("" + (char) 255, 1, 0);
        bad("beggar 1;" + (char) 160, 1, 9);
        bad("beggar `;", 1, 7);
        bad("beggar {;", 1, 7);
        bad("beggar /;", 1, 7);
        bad("beggar :;", 1, 7);
        bad("hat 1 2:", 1, 7);
        bad("hat 1 2x", 1, 7);
    }

    private static void ends() {
        bad("beggar", 1, 6);
        bad("beggar  ", 1, 8);
        bad("beggar 1", 1, 8);
        bad("beggar 1   ", 1, 11);
        bad("spot 1 1", 1, 8);
        bad("spot 1 1 1", 1, 10);
        bad("beggar 1;bell", 1, 13);
    }

    private static void anEarlierTextIsGone() {
        String[][] texts = {{"beggar 12;", "beggar 1", "8"}, {"beggar 1;", "beggar 1", "8"}, {"bells", "bell", "4"},
            {"hat 1 1;hat", "hat 1 1", "7"}};
        for (String[] pair : texts) {
            ShadowAlms x = new ShadowAlms();
            Due.feed(x, pair[0]);
            x.square();
            Due.feed(x, pair[1]);
            Due.is("'" + pair[1] + "' behind '" + pair[0] + "'", x.square(), -11);
            Due.is("its place", x.fault(), Integer.parseInt(pair[2]));
        }
        ShadowAlms x = new ShadowAlms();
        Due.feed(x, "beggar 5; lamp");
        x.square();
        Due.feed(x, "beggar 5;");
        Due.is("blanks and words behind the end", x.square(), 1);
    }

    private static void numbersOutOfBounds() {
        bad("year 0;", 2, 5);
        bad("year 61;", 2, 5);
        bad("bell 100 1;", 2, 5);
        bad("bell 1 10;", 2, 7);
        bad("spot 21 1 1;", 2, 5);
        bad("spot 1 10 1;", 2, 7);
        bad("spot 1 1 201;", 2, 9);
        bad("beggar 0;", 2, 7);
        bad("beggar 91;", 2, 7);
        bad("hat 0 1;", 2, 4);
        bad("hat 21 1;", 2, 4);
        bad("hat 1 51;", 2, 6);
        bad("beggar 000", 2, 7);
        bad("hat21x", 2, 3);
    }

    private static void numbersTooLong() {
        bad("beggar 0001;", 2, 7);
        bad("beggar 1234", 2, 7);
        bad("bell 1 0000;", 2, 7);
        bad("beggar 99999999999999999999", 2, 7);
        bad("beggar 4294967297;", 2, 7);
        bad("year 0012;", 2, 5);
    }

    private static void tooMany() {
        bad("year 5;year 5;", 3, 7);
        bad("year 5; year", 3, 8);
        bad(FOUR_BELLS + "bell 1 1;", 3, 36);
        bad(FOUR_BELLS + " bell", 3, 37);
        bad(SIX_SPOTS + "spot 0 0 0;", 3, 66);
        bad(SIX_BEGGARS + "beggar 1;", 3, 54);
        bad(FOUR_HATS + "hat 1 1;", 3, 32);
        bad(FOUR_HATS + FOUR_BELLS + "hat", 3, 68);
    }

    private static void leastFaultAndFirstPlace() {
        // a year that is told again and stands behind another clause has the lesser fault
        bad("year 5;bell 1 1;year 5;", 1, 16);
        // a fifth bell's number that is out of bounds comes behind its first letter
        bad(FOUR_BELLS + "bell 100 1;", 3, 36);
        bad("bell 100 x", 2, 5);
        bad("lamp 1;bell 100 1;", 1, 0);
    }

    private static void aFaultLeavesAllElse() {
        ShadowAlms x = Due.squareOf("year 7;bell 10 1;spot 1 0 0;beggar 10;hat 2 1;");
        x.day(3);
        x.go(0, 0);
        x.lend(0, 0);
        x.ring(0);
        x.tell(0, 0, 0, 1);
        x.write(0, 0, 1);
        x.keep(1);
        Due.feed(x, "year 9;bell 1 1;bell 2 2;spot 2 2 2;beggar 1;beggar 2;hat 1 1;hat 2 2;lamp");
        Due.is("square with a fault", x.square(), -11);
        Due.is("its place", x.fault(), 70);
        int[] told = {7, 1, 1, 1, 1, 0, 3, 0, 16, 1, 1};
        for (int what = 0; what < told.length; what++) {
            Due.is("told(" + what + ") behind a fault", x.told(what), told[what]);
        }
        Due.is("T", x.beggar(0, 0), 10);
        Due.is("where", x.beggar(0, 1), 0);
        Due.is("hat", x.beggar(0, 2), 0);
        Due.is("purse", x.beggar(0, 4), 15);
        Due.is("image", x.goBack(1), 1);
        Due.is("a good one", x.square(), 0);
        Due.is("fault is gone", x.fault(), Due.NONE);
    }

    private static void aSquareStartsAnew() {
        String text = "year 7;bell 10 1;spot 1 0 0;beggar 10;hat 2 1;";
        ShadowAlms x = Due.squareOf(text);
        x.day(3);
        x.go(0, 0);
        x.lend(0, 0);
        x.ring(0);
        x.tell(0, 0, 0, 1);
        x.write(0, 0, 1);
        x.keep(0);
        x.keep(1);
        x.law(2);
        x.seed(77);
        Due.feed(x, text);
        Due.is("square anew", x.square(), 1);
        int[] told = {7, 1, 1, 1, 1, 0, 0, 2, 0, 0, 0};
        for (int what = 0; what < told.length; what++) {
            Due.is("told(" + what + ") anew", x.told(what), told[what]);
        }
        Due.is("nowhere", x.beggar(0, 1), Due.NONE);
        Due.is("without hat", x.beggar(0, 2), Due.NONE);
        Due.is("purse 0", x.beggar(0, 4), 0);
        Due.is("spot free", x.spot(0, 3), Due.NONE);
        Due.is("hat free", x.hat(0, 2), Due.NONE);
        Due.is("image 0 gone", x.goBack(0), Due.NOT);
        Due.is("image 1 gone", x.goBack(1), Due.NOT);
        Due.is("seed stays", x.seed(0), 77);
        Due.is("an empty text is a square", x.square(), 0);
        Due.is("N of it", x.told(0), 12);
        Due.is("BELLS of it", x.told(1), 0);
        Due.is("HATS of it", x.told(4), 0);
    }

    private static void toldOutside() {
        ShadowAlms x = new ShadowAlms();
        Due.is("told(-1)", x.told(-1), Due.OUTSIDE);
        Due.is("told(11)", x.told(11), Due.OUTSIDE);
        Due.is("told(least)", x.told(Integer.MIN_VALUE), Due.OUTSIDE);
        Due.is("told(greatest)", x.told(Integer.MAX_VALUE), Due.OUTSIDE);
    }
}
