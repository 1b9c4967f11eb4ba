/** Promises 28 to 30: seed, keep, goBack. */
public final class DrawsAndImagesTest {
    private static final String TEXT = "year 10;bell 5 2;bell 20 0;spot 4 0 0;spot 0 5 0;spot 10 0 30;"
        + "beggar 50;beggar 60;beggar 40;beggar 55;hat 10 4;hat 5 20;";

    public static void main(String[] args) {
        seeds();
        aDrawIsAsTold();
        images();
        imagesKeepNoText();
        imageRefusals();
        Due.end();
    }

    private static void seeds() {
        ShadowAlms x = new ShadowAlms();
        Due.is("seed at first", x.seed(2147483647), 0);
        Due.is("seed -1", x.seed(-1), Due.OUTSIDE);
        Due.is("seed least", x.seed(Integer.MIN_VALUE), Due.OUTSIDE);
        Due.is("seed 0", x.seed(0), 2147483647);
        Due.is("seed 7", x.seed(7), 0);
        Due.is("seed then", x.seed(7), 7);
    }

    private static void aDrawIsAsTold() {
        // without bells a day has two draws
        ShadowAlms x = Due.squareOf("spot 0 0 0;beggar 1;");
        x.drift(1);
        long once = 12345L;
        long twice = (once * 1103515245L + 12345L) % 2147483648L;
        Due.is("two draws from 0", x.seed(2147483647), twice);
        x.drift(1);
        once = (2147483647L * 1103515245L + 12345L) % 2147483648L;
        twice = (once * 1103515245L + 12345L) % 2147483648L;
        Due.is("two draws from the greatest", x.seed(0), twice);
    }

    private static void change(ShadowAlms x, int way) {
        x.day(1 + way);
        x.go(0, way);
        x.go(1, Due.NONE);
        x.lend(1, Due.NONE);
        x.lend(0, way);
        x.law(way);
        x.seed(100 + way);
        x.ring(1);
    }

    private static int[] look(ShadowAlms x) {
        int[] seen = new int[26];
        int at = 0;
        for (int g = 0; g < 4; g++) {
            for (int what = 1; what <= 4; what++) {
                seen[at++] = x.beggar(g, what);
            }
        }
        for (int h = 0; h < 2; h++) {
            seen[at++] = x.hat(h, 2);
        }
        for (int s = 0; s < 3; s++) {
            seen[at++] = x.spot(s, 3);
        }
        for (int what = 6; what <= 8; what++) {
            seen[at++] = x.told(what);
        }
        seen[at] = x.seed(0);
        x.seed(seen[at]);
        return seen;
    }

    private static void same(String name, int[] got, int[] want) {
        for (int i = 0; i < want.length; i++) {
            Due.is(name + " " + i, got[i], want[i]);
        }
    }

    private static void images() {
        ShadowAlms x = Due.squareOf(TEXT);
        x.go(1, 0);
        x.lend(1, 2);
        change(x, 1);
        int[] first = look(x);
        Due.is("keep 0", x.keep(0), 1);
        same("keeping changes nothing", look(x), first);
        change(x, 2);
        int[] second = look(x);
        Due.is("keep 1", x.keep(1), 1);
        change(x, 0);
        Due.is("goBack 0", x.goBack(0), 1);
        same("image 0", look(x), first);
        Due.is("goBack 1", x.goBack(1), 1);
        same("image 1", look(x), second);
        change(x, 0);
        Due.is("goBack 0 again", x.goBack(0), 1);
        same("image 0 again", look(x), first);
        // an image is what was so when it was kept last
        change(x, 0);
        int[] third = look(x);
        x.keep(1);
        x.goBack(0);
        x.goBack(1);
        same("image 1 anew", look(x), third);
        x.goBack(0);
        int given = x.drift(50);
        x.goBack(0);
        Due.is("the same days by draws", x.drift(50), given);
    }

    private static void imagesKeepNoText() {
        ShadowAlms x = Due.squareOf(TEXT);
        x.keep(0);
        x.feed(1, 32L);
        x.tell(0, 0, 0, 0);
        x.write(0, 0, 0);
        x.goBack(0);
        Due.is("THE TEXT stays", x.told(5), 1);
        Due.is("TOLD stays", x.told(9), 1);
        Due.is("THE BOOK stays", x.told(10), 1);
    }

    private static void imageRefusals() {
        ShadowAlms x = new ShadowAlms();
        Due.is("keep 2", x.keep(2), Due.UNKNOWN);
        Due.is("keep -1", x.keep(-1), Due.UNKNOWN);
        Due.is("goBack 2", x.goBack(2), Due.UNKNOWN);
        Due.is("goBack -1", x.goBack(-1), Due.UNKNOWN);
        Due.is("goBack 0", x.goBack(0), Due.NOT);
        Due.is("goBack 1", x.goBack(1), Due.NOT);
        Due.is("keep 1 on a new object", x.keep(1), 1);
        Due.is("goBack 0 still", x.goBack(0), Due.NOT);
        x.day(4);
        Due.is("goBack 1 then", x.goBack(1), 1);
        Due.is("THE DAY then", x.told(6), 0);
    }
}
