import java.util.function.ToIntFunction;

/** The document's part 1, THE SQUARE, and promises 1 to 4: a test for each sentence that names a bound. */
public final class TextBoundsTest {
    private static final int CANNOT = 1, NUMBER = 2, AGAIN = 3;
    private static final String BELL = "bell 1 1;", SPOT = "spot 0 0 0;", BEGGAR = "beggar 1;", HAT = "hat 1 1;";

    public static void main(String[] args) {
        bytesOfALong();
        aTextOf500Bytes();
        aFaultInTheLastByte();
        yearOfDays();
        yearOnceAheadOfAll();
        bells();
        spots();
        beggars();
        hats();
        figures();
        letters();
        blanks();
        sideBySide();
        emptyTexts();
        theEnd();
        theFirstByteOfSeveral();
        theLeastOfSeveral();
        atTheFirstOfAWord();
        asMuchAsThereMayBe();
        aFaultLeavesAllElse();
        faultOfTheLatest();
        aNewSquare();
        Due.end();
    }

    private static void good(String text, int beggars) {
        ShadowAlms x = new ShadowAlms();
        Due.feed(x, text);
        Due.is("bytes of '" + text + "'", x.told(5), text.length());
        Due.is("square of '" + text + "'", x.square(), beggars);
        Due.is("fault of '" + text + "'", x.fault(), Due.NONE);
        Due.is("THE TEXT behind '" + text + "'", x.told(5), 0);
    }

    private static void bad(String text, int number, int place) {
        ShadowAlms x = new ShadowAlms();
        Due.feed(x, text);
        Due.is("bytes of '" + text + "'", x.told(5), text.length());
        Due.is("square of '" + text + "'", x.square(), -10 - number);
        Due.is("fault of '" + text + "'", x.fault(), place);
        Due.is("THE TEXT behind '" + text + "'", x.told(5), 0);
    }

    /** A number between two pieces of text: taken at its bounds, a fault of number 2 one beyond. */
    private static void number(String ahead, String behind, int least, int greatest, ToIntFunction<ShadowAlms> look) {
        for (int value : new int[] {least, greatest}) {
            ShadowAlms x = new ShadowAlms();
            Due.feed(x, ahead + value + behind);
            Due.is("square of '" + ahead + value + behind + "'", Math.min(0, x.square()), 0);
            Due.is("fault of '" + ahead + value + behind + "'", x.fault(), Due.NONE);
            Due.is("the number of '" + ahead + value + behind + "'", look.applyAsInt(x), value);
        }
        bad(ahead + (greatest + 1) + behind, NUMBER, ahead.length());
        bad(ahead + 999 + behind, NUMBER, ahead.length());
        // below 0 there are no numbers: the sign itself cannot stand there
        bad(ahead + (least - 1) + behind, least == 0 ? CANNOT : NUMBER, ahead.length());
    }

    /** "The lowest n bytes (1 .. 8) of a long, the highest of these first" */
    private static void bytesOfALong() {
        String text = "beggar89";
        for (int n = 1; n <= 8; n++) {
            // the bytes above the lowest n are semicolons, which would be a fault
            ShadowAlms x = new ShadowAlms();
            int at = 0;
            int many = 0;
            while (at < text.length()) {
                int now = Math.min(n, text.length() - at);
                long bytes = 0x3b3b3b3b3b3b3b3bL;
                for (int i = 0; i < now; i++) {
                    bytes = bytes << 8 | text.charAt(at++);
                }
                many += now;
                Due.is("feed(" + now + ")", x.feed(now, bytes), many);
            }
            x.feed(1, 0x202020202020203bL);
            Due.is("square fed by " + n, x.square(), 1);
            Due.is("beggar fed by " + n, x.beggar(0, 0), 89);
        }
        // bytes of 128 and more are no letters, figures, blanks, whatever the sign of the long
        for (long bytes : new long[] {-1L, Long.MIN_VALUE, 0x80L, 0xffL, 0xa0L, 0xb1L, 0xe2L}) {
            ShadowAlms x = new ShadowAlms();
            Due.is("feed of " + bytes, x.feed(8, bytes), 8);
            Due.is("square of " + bytes, x.square(), -11);
            Due.is("fault of " + bytes, x.fault(), 0);
        }
        ShadowAlms x = new ShadowAlms();
        Due.is("a byte of 0", x.feed(1, 256L), 1);
        Due.is("square of a byte of 0", x.square(), -11);
    }

    private static ShadowAlms blanksOf(int many) {
        ShadowAlms x = new ShadowAlms();
        Due.feed(x, " ".repeat(many));
        Due.is("blanks", x.told(5), many);
        return x;
    }

    /** "told in a text (500 bytes at most)", "FULL (500)" */
    private static void aTextOf500Bytes() {
        for (int n = 1; n <= 8; n++) {
            Due.is("to 499 by " + n, blanksOf(499 - n).feed(n, 32L), 499);
            Due.is("to 500 by " + n, blanksOf(500 - n).feed(n, 32L), 500);
            ShadowAlms x = blanksOf(501 - n);
            Due.is("to 501 by " + n, x.feed(n, 59L), Due.FULL);
            Due.is("it has as many", x.told(5), 501 - n);
        }
        good(" ".repeat(490) + BEGGAR, 1);
        good(" ".repeat(491) + BEGGAR, 1);
        good(BEGGAR + " ".repeat(491), 1);
        // the 501st byte would be the end of the clause
        ShadowAlms x = new ShadowAlms();
        Due.feed(x, " ".repeat(492) + "beggar 1");
        Due.is("a clause too long", x.feed(1, 59L), Due.FULL);
        Due.is("it has no end", x.square(), -11);
        Due.is("at the end of 500", x.fault(), 500);
        Due.is("then there is room again", x.feed(8, 0x6265676761722039L), 8);
        Due.is("and again", x.feed(1, 59L), 9);
        Due.is("for another one", x.square(), 1);
    }

    private static void aFaultInTheLastByte() {
        bad(" ".repeat(499) + ";", CANNOT, 499);
        bad(" ".repeat(490) + BEGGAR + "x", CANNOT, 499);
        bad(" ".repeat(496) + "year", CANNOT, 500);
        bad("beggar" + " ".repeat(493) + "0", NUMBER, 499);
        bad("x" + " ".repeat(499), CANNOT, 0);
    }

    /** "(a YEAR of N days, 1 .. 60; 12 untold ...)" */
    private static void yearOfDays() {
        number("year ", ";", 1, 60, x -> x.told(0));
        number("year ", ";beggar 1;", 1, 60, x -> x.told(0));
        Due.is("untold", Due.squareOf(BEGGAR).told(0), 12);
        Due.is("untold on a new object", new ShadowAlms().told(0), 12);
        ShadowAlms x = Due.squareOf("year 60;");
        Due.feed(x, BEGGAR);
        x.square();
        Due.is("untold behind one that was told", x.told(0), 12);
    }

    /** "(... once, ahead of all else, if it is told)", "1 ... a 'year' behind another clause", "3 'year' again" */
    private static void yearOnceAheadOfAll() {
        good("year 1;" + BEGGAR, 1);
        good("  year 1;" + BEGGAR, 1);
        bad("year 1;year 1;", AGAIN, 7);
        bad("year 1;  year", AGAIN, 9);
        for (String clause : new String[] {BELL, SPOT, BEGGAR, HAT}) {
            bad(clause + "year 1;", CANNOT, clause.length());
            bad("year 1;" + clause + "year 1;", CANNOT, 7 + clause.length());
        }
        bad("year 1;year 1;" + BEGGAR, AGAIN, 7);
    }

    private static void atMost(String clause, int most, int what) {
        String all = clause.repeat(most);
        ShadowAlms x = Due.squareOf(all);
        Due.is("as many as there may be of " + clause, x.told(what), most);
        Due.is("one less of " + clause, Due.squareOf(clause.repeat(most - 1)).told(what), most - 1);
        Due.is("none of " + clause, Due.squareOf("").told(what), 0);
        bad(all + clause, AGAIN, all.length());
        bad(all + "  " + clause, AGAIN, all.length() + 2);
        bad(all + clause.substring(0, clause.indexOf(' ')), AGAIN, all.length());
        // others between them count not
        String other = clause.equals(HAT) ? BELL : HAT;
        bad(other + all + other + clause, AGAIN, all.length() + 2 * other.length());
    }

    /** "'bell' L S ';' (4 BELLS at most: ... L, 0 .. 99, ... S more, 0 .. 9 ...)" */
    private static void bells() {
        atMost(BELL, 4, 1);
        number("bell ", " 9;", 0, 99, x -> x.bell(0, 0));
        number("bell 99 ", ";", 0, 9, x -> x.bell(0, 1) - 99);
        number(BELL.repeat(3) + "bell ", " 9;", 0, 99, x -> x.bell(3, 0));
        number(BELL.repeat(3) + "bell 0 ", ";", 0, 9, x -> x.bell(3, 1));
    }

    /** "'spot' A M W ';' (6 SPOTS at most ...: STEPS A, 0 .. 20 ...; MUD M, 0 .. 9 ...; a WALL W behind, 0 .. 200 ...)" */
    private static void spots() {
        atMost(SPOT, 6, 2);
        number("spot ", " 9 200;", 0, 20, x -> x.spot(0, 0));
        number("spot 20 ", " 200;", 0, 9, x -> x.spot(0, 1));
        number("spot 20 9 ", ";", 0, 200, x -> x.spot(0, 2));
        number(SPOT.repeat(5) + "spot ", " 9 200;", 0, 20, x -> x.spot(5, 0));
        number(SPOT.repeat(5) + "spot 0 ", " 0;", 0, 9, x -> x.spot(5, 1));
        number(SPOT.repeat(5) + "spot 0 0 ", ";", 0, 200, x -> x.spot(5, 2));
    }

    /** "'beggar' T ';' (6 BEGGARS at most: T high, 1 .. 90)" */
    private static void beggars() {
        atMost(BEGGAR, 6, 3);
        number("beggar ", ";", 1, 90, x -> x.beggar(0, 0));
        number(BEGGAR.repeat(5) + "beggar ", ";", 1, 90, x -> x.beggar(5, 0));
    }

    /** "'hat' H C ';' (4 HATS at most: H high, 1 .. 20; lent for C a BELL, 0 .. 50)" */
    private static void hats() {
        atMost(HAT, 4, 4);
        number("hat ", " 50;", 1, 20, x -> x.hat(0, 0));
        number("hat 20 ", ";", 0, 50, x -> x.hat(0, 1));
        number(HAT.repeat(3) + "hat ", " 0;", 1, 20, x -> x.hat(3, 0));
        number(HAT.repeat(3) + "hat 1 ", ";", 0, 50, x -> x.hat(3, 1));
    }

    /** "NUMBERS have one to three figures", "2 a NUMBER of four figures or more" */
    private static void figures() {
        bad("beggar ;", CANNOT, 7);
        for (String one : new String[] {"7", "07", "007"}) {
            good("beggar " + one + ";", 1);
            Due.is("beggar " + one, Due.squareOf("beggar " + one + ";").beggar(0, 0), 7);
        }
        bad("beggar 0007;", NUMBER, 7);
        bad("bell 0 0000;", NUMBER, 7);
        bad("beggar 00007;", NUMBER, 7);
        bad("beggar " + "0".repeat(491) + "7;", NUMBER, 7);
        // numbers that would be small again if they were counted round
        bad("beggar 4294967303;", NUMBER, 7);
        bad("beggar 18446744073709551623;", NUMBER, 7);
        bad("beggar " + "9".repeat(493), NUMBER, 7);
        bad("beggar 1000;", NUMBER, 7);
        bad("spot 0 0 201;", NUMBER, 9);
        bad("spot 0 0 999;", NUMBER, 9);
        bad("spot 0 0 1000;", NUMBER, 9);
        // the figures are 0 .. 9: one beyond on each side
        good("beggar 90;", 1);
        bad("beggar /;", CANNOT, 7);
        bad("beggar :;", CANNOT, 7);
        bad("beggar 8/;", CANNOT, 8);
        bad("beggar 8:;", CANNOT, 8);
    }

    /** "words are letters a .. z side by side" */
    private static void letters() {
        good(BEGGAR, 1);
        bad("`beggar 1;", CANNOT, 0);
        bad("{beggar 1;", CANNOT, 0);
        bad("beggar` 1;", CANNOT, 6);
        bad("beggar{ 1;", CANNOT, 6);
        bad("BEGGAR 1;", CANNOT, 0);
        bad("beggaR 1;", CANNOT, 0);
        bad("beggara 1;", CANNOT, 0);
        bad("beggarz 1;", CANNOT, 0);
        bad("abeggar 1;", CANNOT, 0);
        bad("zbeggar 1;", CANNOT, 0);
        bad("begga", CANNOT, 0);
        bad("b", CANNOT, 0);
        bad("z".repeat(500), CANNOT, 0);
        for (String word : new String[] {"year", "bell", "spot", "beggar", "hat"}) {
            String less = word.substring(0, word.length() - 1);
            bad(word, CANNOT, word.length());
            bad(less, CANNOT, 0);
            bad(word + word.charAt(word.length() - 1), CANNOT, 0);
            bad(less + " " + word.charAt(word.length() - 1) + " 1 1 1;", CANNOT, 0);
        }
    }

    /** "blanks (32) may stand anywhere but within words and NUMBERS" */
    private static void blanks() {
        good(" spot 1 2 3;spot  4 5 6;spot 7  8 9;spot 1 2  3;spot 1 2 3 ;" + BEGGAR + " ", 1);
        good(" ".repeat(100) + "beggar" + " ".repeat(100) + "1" + " ".repeat(100) + ";" + " ".repeat(100), 1);
        bad("beg gar 1;", CANNOT, 0);
        bad("beggar 1 0;", CANNOT, 9);
        for (char sign : new char[] {0, 9, 10, 13, 31, 33, 127, 128, 160, 255}) {
            bad(sign + BEGGAR, CANNOT, 0);
            bad("beggar" + sign + "1;", CANNOT, 6);
            bad("beggar 1" + sign + ";", CANNOT, 8);
            bad(BEGGAR + sign, CANNOT, 9);
        }
    }

    /** "two words, two NUMBERS side by side need one" */
    private static void sideBySide() {
        good("hat1 2;beggar3;bell4 5;spot6 7 8;", 1);
        bad("hat12;", CANNOT, 5);
        bad("spot1 03;", CANNOT, 8);
        bad("hatbeggar 1;", CANNOT, 0);
        bad("hat beggar 1;", CANNOT, 4);
        bad("bell1 2beggar 1;", CANNOT, 7);
    }

    /** "An empty text (or one of blanks alone) has no FAULT." */
    private static void emptyTexts() {
        for (int many : new int[] {0, 1, 2, 499, 500}) {
            good(" ".repeat(many), 0);
        }
    }

    /** "(the end at the text's length)": every beginning of a text */
    private static void theEnd() {
        String text = "year 12;spot 20 9 200;";
        int[] numbers = new int[text.length() + 1];
        int[] places = new int[text.length() + 1];
        for (int length = 1; length <= text.length(); length++) {
            numbers[length] = CANNOT;
            places[length] = length;
        }
        for (int part = 1; part < 4; part++) {
            // a word that is not whole cannot stand there, from its first letter on
            places[part] = 0;
            places[8 + part] = 8;
        }
        numbers[8] = 0;
        numbers[text.length()] = 0;
        for (int length = 1; length <= text.length(); length++) {
            if (numbers[length] == 0) {
                good(text.substring(0, length), 0);
            } else {
                bad(text.substring(0, length), numbers[length], places[length]);
                if (places[length] == length) {
                    bad(text.substring(0, length) + "   ", numbers[length], length + 3);
                }
            }
        }
    }

    /** "at the first byte that has one" */
    private static void theFirstByteOfSeveral() {
        bad("beggar 91;lamp", NUMBER, 7);
        bad("lamp beggar 91;", CANNOT, 0);
        bad("beggar 91x", NUMBER, 7);
        bad("beggar x91", CANNOT, 7);
        bad("beggar 0 0", NUMBER, 7);
        bad(BELL.repeat(4) + "bell 100 10;", AGAIN, 36);
        bad("year 1;year 61;", AGAIN, 7);
        bad("year 61;year 1;", NUMBER, 5);
        bad("hat 21 51", NUMBER, 4);
        bad("hat 20 51", NUMBER, 7);
        bad("spot 21 10 201;", NUMBER, 5);
        bad("spot 20 10 201;", NUMBER, 8);
        bad("spot 20 9 201;", NUMBER, 10);
    }

    /** "of these the least" */
    private static void theLeastOfSeveral() {
        bad("year 1;beggar 1;year 1;", CANNOT, 16);
        bad("1000 beggar", CANNOT, 0);
        bad("beggar 1 1000;", CANNOT, 9);
        bad("year year 1;", CANNOT, 5);
        bad("year 1;bell year", CANNOT, 12);
        bad(HAT.repeat(4) + "beggar hat 1 1;", CANNOT, 39);
        bad(BEGGAR.repeat(6) + "hat 1 beggar", CANNOT, 60);
    }

    /** "(a word that cannot ...: at its first letter)", "(at its first)" */
    private static void atTheFirstOfAWord() {
        bad("   lamp 1;", CANNOT, 3);
        bad("beggar 1; lamp", CANNOT, 10);
        bad("beggar   lamp", CANNOT, 9);
        bad("beggar 1   lamp", CANNOT, 11);
        bad("beggar   091;", NUMBER, 9);
        bad("beggar   0001;", NUMBER, 9);
    }

    private static void asMuchAsThereMayBe() {
        String all = "year 60;" + "bell 99 9;".repeat(4) + "spot 20 9 200;".repeat(6) + "beggar 90;".repeat(6) + "hat 20 50;".repeat(4);
        good(all, 6);
        ShadowAlms x = Due.squareOf(all);
        int[] told = {60, 4, 6, 6, 4};
        for (int what = 0; what < told.length; what++) {
            Due.is("as much as there may be: told " + what, x.told(what), told[what]);
        }
        for (String clause : new String[] {BELL, SPOT, BEGGAR, HAT}) {
            bad(all + clause, AGAIN, all.length());
        }
        bad(all + "year 1;", CANNOT, all.length());
    }

    private static ShadowAlms busy() {
        ShadowAlms x = Due.squareOf("year 7;bell 10 1;bell 3 0;spot 1 0 0;spot 0 2 5;beggar 10;beggar 4;hat 2 1;");
        x.keep(0);
        x.day(3);
        x.go(0, 0);
        x.lend(0, 1);
        x.law(1);
        x.seed(9);
        x.ring(0);
        x.keep(1);
        x.tell(0, 0, 0, 5);
        x.write(0, 0, 1);
        return x;
    }

    private static int squareOf(ShadowAlms x, String text) {
        Due.feed(x, text);
        return x.square();
    }

    /** "THE TEXT (it is empty then, with a FAULT, too)", "-10 less the number of its FAULT (all else is as it was)" */
    private static void aFaultLeavesAllElse() {
        String whole = "year 9;bell 1 1;bell 2 2;spot 2 2 2;beggar 1;beggar 2;beggar 3;hat 1 1;hat 2 2;";
        String[] texts = {whole + "lamp", whole + "beggar 91;", whole + "hat 1 1;hat 1 1;hat", whole + "beggar 1", "x"};
        int[] numbers = {CANNOT, NUMBER, AGAIN, CANNOT, CANNOT};
        for (int i = 0; i < texts.length; i++) {
            String text = texts[i];
            // both have had a fault at the same place, so that fault() is no difference
            Bound.refused("square of '" + text + "'", () -> afterFault(text), -10 - numbers[i], x -> squareOf(x, text));
        }
    }

    private static ShadowAlms afterFault(String text) {
        ShadowAlms x = busy();
        squareOf(x, text);
        return x;
    }

    /** "The place ... of the byte that has the FAULT of the latest square(); NONE." */
    private static void faultOfTheLatest() {
        ShadowAlms x = new ShadowAlms();
        Due.is("of none", x.fault(), Due.NONE);
        Due.is("a fault at 0", squareOf(x, "x"), -11);
        Due.is("its place", x.fault(), 0);
        Due.is("still", x.fault(), 0);
        Due.feed(x, "beggar 0;");
        Due.is("what is only fed has none", x.fault(), 0);
        Due.is("a fault at 7", x.square(), -12);
        Due.is("its place then", x.fault(), 7);
        Due.is("no fault", x.square(), 0);
        Due.is("no place", x.fault(), Due.NONE);
        Due.is("a fault again", squareOf(x, "year 1;year"), -13);
        Due.is("its place again", x.fault(), 7);
        Due.is("refused calls have none", x.beggar(0, 0), Due.UNKNOWN);
        Due.is("its place as it was", x.fault(), 7);
    }

    /** "becomes THE SQUARE (DAY 0, all nowhere, without HATS, PURSES 0; nothing TOLD, no BOOK; IMAGES are gone; ...)" */
    private static void aNewSquare() {
        ShadowAlms x = Due.squareOf("bell 10 1;".repeat(4) + SPOT.repeat(6) + "beggar 9;".repeat(6) + "hat 2 1;".repeat(4));
        for (int g = 0; g < 6; g++) {
            x.go(g, 5 - g);
            x.lend(g, g);
        }
        x.ring(3);
        x.day(5);
        x.law(2);
        x.seed(2147483647);
        x.keep(0);
        x.keep(1);
        for (int i = 0; i < 30; i++) {
            x.tell(3, 0, 5, 1);
            x.write(3, 5, 1);
        }
        Due.is("TOLD full", x.tell(0, 0, 0, 0), Due.FULL);
        Due.is("BOOK full", x.write(0, 0, 0), Due.FULL);
        Due.is("a smaller square", squareOf(x, "bell 10 1;" + SPOT + "beggar 9;" + "hat 2 1;"), 1);
        int[] told = {12, 1, 1, 1, 1, 0, 0, 2, 0, 0, 0};
        for (int what = 0; what < told.length; what++) {
            Due.is("a smaller square: told " + what, x.told(what), told[what]);
        }
        Due.is("nowhere", x.beggar(0, 1), Due.NONE);
        Due.is("without a hat", x.beggar(0, 2), Due.NONE);
        Due.is("PURSE 0", x.beggar(0, 4), 0);
        Due.is("image 0 is gone", x.goBack(0), Due.NOT);
        Due.is("image 1 is gone", x.goBack(1), Due.NOT);
        Due.is("no second BELL", x.bell(1, 0), Due.UNKNOWN);
        Due.is("no second SPOT", x.spot(1, 0), Due.UNKNOWN);
        Due.is("no second BEGGAR", x.beggar(1, 0), Due.UNKNOWN);
        Due.is("no second HAT", x.hat(1, 0), Due.UNKNOWN);
        Due.is("THE SEED stays", x.seed(1), 2147483647);
        Due.is("nobody is on the spot", x.go(0, 0), Due.NONE);
        Due.is("nobody has the hat", x.lend(0, 0), Due.NONE);
        Due.is("room for what is TOLD", x.tell(0, 0, 0, 0), 1);
        Due.is("room in THE BOOK", x.write(0, 0, 0), 1);
        Due.is("a greater square", squareOf(x, BELL.repeat(4) + SPOT.repeat(6) + BEGGAR.repeat(6) + HAT.repeat(4)), 6);
        for (int g = 0; g < 6; g++) {
            Due.is("nowhere: " + g, x.beggar(g, 1), Due.NONE);
            Due.is("bare: " + g, x.beggar(g, 2), Due.NONE);
            Due.is("no PURSE: " + g, x.beggar(g, 4), 0);
            Due.is("free: " + g, x.spot(g, 3), Due.NONE);
        }
    }
}
