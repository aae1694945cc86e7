/** Promises 1, 2, 3: a new object, feed, end. */
public final class TapeTest {
    public static void main(String[] args) {
        aNewObject();
        feedAndEnd();
        Kit.done();
    }

    private static void aNewObject() {
        FrostHouse x = new FrostHouse();
        Kit.due("about(0)", x.about(0), 0);
        Kit.due("about(1)", x.about(1), 0);
        Kit.due("about(2)", x.about(2), 0);
    }

    private static void feedAndEnd() {
        FrostHouse x = new FrostHouse();
        for (int i = 1; i <= 3250; i++) {
            Kit.due("feed " + i, x.feed(i, 0, 0, 0, 0), 20 * i);
        }
        Kit.due("feed above 65,000", x.feed(1, 2, 3, 4, 5), FrostHouse.NONE);
        Kit.due("about(1)", x.about(1), 65000);
        Kit.due("end(65001)", x.end(65001), false);
        Kit.due("end(-1)", x.end(-1), false);
        Kit.due("end(64981)", x.end(64981), true);
        Kit.due("feed", x.feed(0, 0, 0, 0, 0), FrostHouse.NONE);
        Kit.due("end(64980)", x.end(64980), true);
        Kit.due("feed", x.feed(0, 0, 0, 0, 0), 65000);
        Kit.due("end(0)", x.end(0), true);
        Kit.due("end(1)", x.end(1), false);
    }
}
