/**
 * Every number of every call, at its bounds and one beyond; of several refusals the first in the document's order
 * (UNKNOWN, OUTSIDE, NOT, FULL); and what is refused changes nothing.
 */
public final class RefusalBoundsTest {
    /** Two bells, three spots, four beggars, two hats. */
    private static final String TEXT = "year 10;bell 5 2;bell 20 0;spot 4 0 0;spot 0 5 0;spot 10 0 30;"
        + "beggar 50;beggar 60;beggar 40;beggar 55;hat 10 4;hat 5 20;";

    public static void main(String[] args) {
        theSquare();
        looks();
        done();
        tried();
        toldShadows();
        drawsAndImages();
        onANewObject();
        unknownAheadOfOutside();
        unknownAheadOfNot();
        outsideAheadOfNotAndFull();
        unknownAheadOfFull();
        looksChangeNothing();
        Due.end();
    }

    /** Something of all that an object can hold: a text half fed, a fault, days, purses, both images, tales, a book. */
    private static ShadowAlms busy() {
        ShadowAlms x = Due.squareOf(TEXT);
        x.keep(0);
        x.go(0, 0);
        x.go(1, 2);
        x.lend(0, 1);
        x.seed(77);
        x.drift(2);
        x.ring(1);
        x.keep(1);
        x.law(2);
        x.day(3);
        x.ring(0);
        x.tell(1, 0, 0, 100);
        x.write(1, 0, 7);
        Due.feed(x, "lamp");
        x.square();
        Due.feed(x, "beggar 3;");
        return x;
    }

    private static ShadowAlms full() {
        ShadowAlms x = busy();
        for (int i = 0; i < 10; i++) {
            x.tell(1, 0, 0, 100);
        }
        for (int i = 0; i < 30; i++) {
            x.write(1, 0, 7);
        }
        for (int i = 0; i < 62; i++) {
            x.feed(8, 0x2020202020202020L);
        }
        for (int i = 0; i < 8; i++) {
            x.feed(1, 32L);
        }
        return x;
    }

    private static void theSquare() {
        Bound.between("feed n", RefusalBoundsTest::busy, 1, 8, Due.OUTSIDE, (x, n) -> x.feed(n, 0x3b3b3b3b3b3b3b3bL));
        Bound.between("told what", RefusalBoundsTest::busy, 0, 10, Due.OUTSIDE, ShadowAlms::told);
    }

    private static void looks() {
        Bound.between("bell b", RefusalBoundsTest::busy, 0, 1, Due.UNKNOWN, (x, b) -> x.bell(b, 0));
        Bound.between("bell day", RefusalBoundsTest::busy, 0, 99999, Due.OUTSIDE, (x, day) -> x.bell(0, day));
        Bound.between("spot s", RefusalBoundsTest::busy, 0, 2, Due.UNKNOWN, (x, s) -> x.spot(s, 0));
        Bound.between("spot what", RefusalBoundsTest::busy, 0, 3, Due.OUTSIDE, (x, what) -> x.spot(0, what));
        Bound.between("beggar g", RefusalBoundsTest::busy, 0, 3, Due.UNKNOWN, (x, g) -> x.beggar(g, 0));
        Bound.between("beggar what", RefusalBoundsTest::busy, 0, 4, Due.OUTSIDE, (x, what) -> x.beggar(0, what));
        Bound.between("hat h", RefusalBoundsTest::busy, 0, 1, Due.UNKNOWN, (x, h) -> x.hat(h, 0));
        Bound.between("hat what", RefusalBoundsTest::busy, 0, 2, Due.OUTSIDE, (x, what) -> x.hat(0, what));
        Bound.between("shadow b", RefusalBoundsTest::busy, 0, 1, Due.UNKNOWN, (x, b) -> x.shadow(b, 0, 0));
        Bound.between("shadow g", RefusalBoundsTest::busy, 0, 3, Due.UNKNOWN, (x, g) -> x.shadow(0, g, 0));
        Bound.between("shadow what", RefusalBoundsTest::busy, 0, 1, Due.OUTSIDE, (x, what) -> x.shadow(0, 0, what));
    }

    /** Where NONE (-1) is a number like the others, the one beyond is -2. */
    private static void done() {
        Bound.between("go g", RefusalBoundsTest::busy, 0, 3, Due.UNKNOWN, (x, g) -> x.go(g, Due.NONE));
        Bound.between("go s", () -> Due.squareOf(TEXT), Due.NONE, 2, Due.UNKNOWN, (x, s) -> x.go(3, s));
        Bound.between("lend h", RefusalBoundsTest::busy, 0, 1, Due.UNKNOWN, (x, h) -> x.lend(h, Due.NONE));
        Bound.between("lend g", () -> Due.squareOf(TEXT), Due.NONE, 3, Due.UNKNOWN, (x, g) -> x.lend(0, g));
        Bound.between("law v", RefusalBoundsTest::busy, 0, 2, Due.OUTSIDE, ShadowAlms::law);
        Bound.between("ring b", RefusalBoundsTest::busy, 0, 1, Due.UNKNOWN, ShadowAlms::ring);
        Bound.between("day n", RefusalBoundsTest::busy, 1, 99, Due.OUTSIDE, ShadowAlms::day);
        Bound.between("drift n", RefusalBoundsTest::busy, 1, 99, Due.OUTSIDE, ShadowAlms::drift);
        Bound.refused("go where another one is", RefusalBoundsTest::busy, Due.NOT, x -> x.go(3, x.beggar(1, 1)));
        Bound.refused("lend to who has another one", RefusalBoundsTest::busy, Due.NOT, x -> x.lend(1, 1));
        Bound.refused("drift without BEGGARS", () -> Due.squareOf("bell 1 1;spot 1 1 1;"), Due.NOT, x -> x.drift(1));
        Bound.refused("drift without SPOTS", () -> Due.squareOf("bell 1 1;beggar 1;"), Due.NOT, x -> x.drift(99));
    }

    private static void tried() {
        Bound.between("standing b", RefusalBoundsTest::busy, 0, 1, Due.UNKNOWN, (x, b) -> x.standing(b, 0, 0));
        Bound.between("standing g", RefusalBoundsTest::busy, Due.NONE, 3, Due.UNKNOWN, (x, g) -> x.standing(0, g, 0));
        Bound.between("standing s", RefusalBoundsTest::busy, Due.NONE, 2, Due.UNKNOWN, (x, s) -> x.standing(0, 0, s));
        Bound.between("hats b", RefusalBoundsTest::busy, 0, 1, Due.UNKNOWN, (x, b) -> x.hats(b, 0));
        Bound.between("hats h", RefusalBoundsTest::busy, Due.NONE, 1, Due.UNKNOWN, (x, h) -> x.hats(0, h));
        Bound.between("giant b", RefusalBoundsTest::busy, 0, 1, Due.UNKNOWN, (x, b) -> x.giant(b, 1, 0, 0));
        Bound.between("giant height", RefusalBoundsTest::busy, 1, 200, Due.OUTSIDE, (x, height) -> x.giant(0, height, 0, 0));
        Bound.between("giant p", RefusalBoundsTest::busy, 0, 999, Due.OUTSIDE, (x, p) -> x.giant(0, 1, p, 1));
        Bound.between("giant what", RefusalBoundsTest::busy, 0, 1, Due.OUTSIDE, (x, what) -> x.giant(0, 1, 0, what));
        Bound.between("peace b", RefusalBoundsTest::busy, 0, 1, Due.UNKNOWN, (x, b) -> x.peace(b, 0));
        Bound.between("peace v", RefusalBoundsTest::busy, 0, 999, Due.OUTSIDE, (x, v) -> x.peace(0, v));
        Bound.between("bread b", RefusalBoundsTest::busy, 0, 1, Due.UNKNOWN, (x, b) -> x.bread(b, 0));
        Bound.between("bread loaves", RefusalBoundsTest::busy, 0, 9999, Due.OUTSIDE, (x, loaves) -> x.bread(0, loaves));
        Bound.between("best g", RefusalBoundsTest::busy, 0, 3, Due.UNKNOWN, (x, g) -> x.best(g, 0));
        Bound.between("best what", RefusalBoundsTest::busy, 0, 1, Due.OUTSIDE, (x, what) -> x.best(0, what));
    }

    private static void toldShadows() {
        Bound.between("tell b", RefusalBoundsTest::busy, 0, 1, Due.UNKNOWN, (x, b) -> x.tell(b, 0, 0, 0));
        Bound.between("tell day", RefusalBoundsTest::busy, 0, 999, Due.OUTSIDE, (x, day) -> x.tell(0, day, 0, 0));
        Bound.between("tell s", RefusalBoundsTest::busy, 0, 2, Due.UNKNOWN, (x, s) -> x.tell(0, 0, s, 0));
        Bound.between("tell inches", RefusalBoundsTest::busy, 0, 999, Due.OUTSIDE, (x, inches) -> x.tell(0, 0, 0, inches));
        Bound.between("fits what", RefusalBoundsTest::busy, 0, 2, Due.OUTSIDE, ShadowAlms::fits);
        Bound.between("write b", RefusalBoundsTest::busy, 0, 1, Due.UNKNOWN, (x, b) -> x.write(b, 0, 0));
        Bound.between("write g", RefusalBoundsTest::busy, 0, 3, Due.UNKNOWN, (x, g) -> x.write(0, g, 0));
        Bound.between("write alms", RefusalBoundsTest::busy, -999, 99999, Due.OUTSIDE, (x, alms) -> x.write(0, 0, alms));
        Bound.refused("tell an eleventh", RefusalBoundsTest::full, Due.FULL, x -> x.tell(0, 0, 0, 0));
        Bound.refused("write a thirty-first", RefusalBoundsTest::full, Due.FULL, x -> x.write(0, 0, 0));
        Bound.refused("feed a 501st", RefusalBoundsTest::full, Due.FULL, x -> x.feed(1, 59L));
    }

    private static void drawsAndImages() {
        Bound.between("seed v", RefusalBoundsTest::busy, 0, Integer.MAX_VALUE, Due.OUTSIDE, ShadowAlms::seed);
        Bound.between("keep i", RefusalBoundsTest::busy, 0, 1, Due.UNKNOWN, ShadowAlms::keep);
        Bound.between("goBack i", RefusalBoundsTest::busy, 0, 1, Due.UNKNOWN, ShadowAlms::goBack);
        Bound.refused("goBack 0 not kept", () -> Due.squareOf(TEXT), Due.NOT, x -> x.goBack(0));
        Bound.refused("goBack 1 not kept", () -> Due.squareOf(TEXT), Due.NOT, x -> x.goBack(1));
    }

    /** Where there are no BELLS, SPOTS, BEGGARS, HATS, even 0 is one that there is not. */
    private static void onANewObject() {
        Bound.refused("new bell", ShadowAlms::new, Due.UNKNOWN, x -> x.bell(0, 0));
        Bound.refused("new spot", ShadowAlms::new, Due.UNKNOWN, x -> x.spot(0, 0));
        Bound.refused("new beggar", ShadowAlms::new, Due.UNKNOWN, x -> x.beggar(0, 0));
        Bound.refused("new hat", ShadowAlms::new, Due.UNKNOWN, x -> x.hat(0, 0));
        Bound.refused("new shadow", ShadowAlms::new, Due.UNKNOWN, x -> x.shadow(0, 0, 0));
        Bound.refused("new go", ShadowAlms::new, Due.UNKNOWN, x -> x.go(0, 0));
        Bound.refused("new go away", ShadowAlms::new, Due.UNKNOWN, x -> x.go(0, Due.NONE));
        Bound.refused("new lend", ShadowAlms::new, Due.UNKNOWN, x -> x.lend(0, 0));
        Bound.refused("new lend back", ShadowAlms::new, Due.UNKNOWN, x -> x.lend(0, Due.NONE));
        Bound.refused("new ring", ShadowAlms::new, Due.UNKNOWN, x -> x.ring(0));
        Bound.refused("new drift", ShadowAlms::new, Due.NOT, x -> x.drift(1));
        Bound.refused("new standing", ShadowAlms::new, Due.UNKNOWN, x -> x.standing(0, Due.NONE, Due.NONE));
        Bound.refused("new hats", ShadowAlms::new, Due.UNKNOWN, x -> x.hats(0, Due.NONE));
        Bound.refused("new giant", ShadowAlms::new, Due.UNKNOWN, x -> x.giant(0, 1, 0, 0));
        Bound.refused("new peace", ShadowAlms::new, Due.UNKNOWN, x -> x.peace(0, 0));
        Bound.refused("new bread", ShadowAlms::new, Due.UNKNOWN, x -> x.bread(0, 0));
        Bound.refused("new best", ShadowAlms::new, Due.UNKNOWN, x -> x.best(0, 0));
        Bound.refused("new tell", ShadowAlms::new, Due.UNKNOWN, x -> x.tell(0, 0, 0, 0));
        Bound.refused("new write", ShadowAlms::new, Due.UNKNOWN, x -> x.write(0, 0, 0));
    }

    private static void unknownAheadOfOutside() {
        Bound.refused("bell, day", RefusalBoundsTest::busy, Due.UNKNOWN, x -> x.bell(2, 100000));
        Bound.refused("spot, what", RefusalBoundsTest::busy, Due.UNKNOWN, x -> x.spot(3, 4));
        Bound.refused("beggar, what", RefusalBoundsTest::busy, Due.UNKNOWN, x -> x.beggar(4, 5));
        Bound.refused("hat, what", RefusalBoundsTest::busy, Due.UNKNOWN, x -> x.hat(2, 3));
        Bound.refused("shadow b, what", RefusalBoundsTest::busy, Due.UNKNOWN, x -> x.shadow(2, 0, 2));
        Bound.refused("shadow g, what", RefusalBoundsTest::busy, Due.UNKNOWN, x -> x.shadow(0, 4, 2));
        Bound.refused("giant, height", RefusalBoundsTest::busy, Due.UNKNOWN, x -> x.giant(2, 0, 0, 0));
        Bound.refused("giant, p", RefusalBoundsTest::busy, Due.UNKNOWN, x -> x.giant(2, 1, 1000, 0));
        Bound.refused("giant, what", RefusalBoundsTest::busy, Due.UNKNOWN, x -> x.giant(2, 1, 0, 2));
        Bound.refused("peace, v", RefusalBoundsTest::busy, Due.UNKNOWN, x -> x.peace(2, 1000));
        Bound.refused("bread, loaves", RefusalBoundsTest::busy, Due.UNKNOWN, x -> x.bread(2, 10000));
        Bound.refused("best, what", RefusalBoundsTest::busy, Due.UNKNOWN, x -> x.best(4, 2));
        Bound.refused("tell b, day", RefusalBoundsTest::busy, Due.UNKNOWN, x -> x.tell(2, 1000, 0, 0));
        Bound.refused("tell s, day", RefusalBoundsTest::busy, Due.UNKNOWN, x -> x.tell(0, 1000, 3, 0));
        Bound.refused("tell b, inches", RefusalBoundsTest::busy, Due.UNKNOWN, x -> x.tell(2, 0, 0, 1000));
        Bound.refused("tell s, inches", RefusalBoundsTest::busy, Due.UNKNOWN, x -> x.tell(0, 0, 3, 1000));
        Bound.refused("write b, alms", RefusalBoundsTest::busy, Due.UNKNOWN, x -> x.write(2, 0, 100000));
        Bound.refused("write g, alms", RefusalBoundsTest::busy, Due.UNKNOWN, x -> x.write(0, 4, 100000));
    }

    private static void unknownAheadOfNot() {
        Bound.refused("go g, taken", RefusalBoundsTest::busy, Due.UNKNOWN, x -> x.go(4, x.beggar(1, 1)));
        Bound.refused("lend h, to who has another", RefusalBoundsTest::busy, Due.UNKNOWN, x -> x.lend(2, 1));
        Bound.refused("goBack i on a new object", ShadowAlms::new, Due.UNKNOWN, x -> x.goBack(2));
    }

    private static void outsideAheadOfNotAndFull() {
        Bound.refused("drift of none, 0 days", ShadowAlms::new, Due.OUTSIDE, x -> x.drift(0));
        Bound.refused("drift of none, 100 days", ShadowAlms::new, Due.OUTSIDE, x -> x.drift(100));
        Bound.refused("feed of a full text, n 0", RefusalBoundsTest::full, Due.OUTSIDE, x -> x.feed(0, 59L));
        Bound.refused("feed of a full text, n 9", RefusalBoundsTest::full, Due.OUTSIDE, x -> x.feed(9, 59L));
        Bound.refused("tell when full, day", RefusalBoundsTest::full, Due.OUTSIDE, x -> x.tell(0, 1000, 0, 0));
        Bound.refused("tell when full, inches", RefusalBoundsTest::full, Due.OUTSIDE, x -> x.tell(0, 0, 0, 1000));
        Bound.refused("write when full, alms", RefusalBoundsTest::full, Due.OUTSIDE, x -> x.write(0, 0, -1000));
    }

    private static void unknownAheadOfFull() {
        Bound.refused("tell when full, b", RefusalBoundsTest::full, Due.UNKNOWN, x -> x.tell(2, 0, 0, 0));
        Bound.refused("tell when full, s", RefusalBoundsTest::full, Due.UNKNOWN, x -> x.tell(0, 0, 3, 0));
        Bound.refused("write when full, b", RefusalBoundsTest::full, Due.UNKNOWN, x -> x.write(2, 0, 0));
        Bound.refused("write when full, g", RefusalBoundsTest::full, Due.UNKNOWN, x -> x.write(0, 4, 0));
    }

    /** What is looked at or tried is not done. */
    private static void looksChangeNothing() {
        Bound.changesNothing("fault", RefusalBoundsTest::busy, ShadowAlms::fault);
        Bound.changesNothing("told", RefusalBoundsTest::busy, x -> x.told(8));
        Bound.changesNothing("bell", RefusalBoundsTest::busy, x -> x.bell(0, 5));
        Bound.changesNothing("spot", RefusalBoundsTest::busy, x -> x.spot(0, 3));
        Bound.changesNothing("beggar", RefusalBoundsTest::busy, x -> x.beggar(0, 4));
        Bound.changesNothing("hat", RefusalBoundsTest::busy, x -> x.hat(0, 2));
        Bound.changesNothing("shadow", RefusalBoundsTest::busy, x -> x.shadow(1, 0, 1));
        Bound.changesNothing("standing", RefusalBoundsTest::busy, x -> x.standing(1, Due.NONE, 1));
        Bound.changesNothing("hats", RefusalBoundsTest::busy, x -> x.hats(1, 1));
        Bound.changesNothing("giant", RefusalBoundsTest::busy, x -> x.giant(1, 200, 0, 1));
        Bound.changesNothing("peace", RefusalBoundsTest::busy, x -> x.peace(1, 999));
        Bound.changesNothing("bread", RefusalBoundsTest::busy, x -> x.bread(1, 9999));
        Bound.changesNothing("best", RefusalBoundsTest::busy, x -> x.best(1, 0));
        Bound.changesNothing("fits", RefusalBoundsTest::busy, x -> x.fits(0));
        Bound.changesNothing("judge", RefusalBoundsTest::busy, ShadowAlms::judge);
        Bound.changesNothing("law as it is", RefusalBoundsTest::busy, x -> x.law(2));
        Bound.changesNothing("go where he is", RefusalBoundsTest::busy, x -> x.go(1, x.beggar(1, 1)));
        Bound.changesNothing("lend to who has it", RefusalBoundsTest::busy, x -> x.lend(0, 1));
    }
}
