/** Promise 39: isTrue holds in whatever state the calls have brought an object. */
final class TruthTest {
    private static final String TEXT = "abcdefgh";

    public static void main(String[] args) {
        Check.same("a new object", new Homewatcher().isTrue(), true);
        handedAndWithdrawn();
        heardAndLate();
        Check.end();
    }

    private static void handedAndWithdrawn() {
        Homewatcher x = Scene.school();
        int a = Scene.handed(x, 0, 0, -1, TEXT);
        Check.same("one in", x.isTrue(), true);
        int b = Scene.handed(x, 0, 0, a, "abcdefghabcd");
        Check.same("two with the same shingles", x.isTrue(), true);
        x.withdraw(b);
        Check.same("one withdrawn", x.isTrue(), true);
        x.withdraw(a);
        Check.same("both withdrawn", x.isTrue(), true);
    }

    private static void heardAndLate() {
        Homewatcher x = Scene.room(3);
        for (int pupil = 0; pupil < 3; pupil++) {
            x.points(Scene.handed(x, pupil, 0, -1, TEXT), 90);
            x.pass(70);
            Check.same("frozen and late", x.isTrue(), true);
        }
        for (int hit = 0; hit < 3; hit++) {
            x.hear(hit, hit + 1);
            Check.same("heard, with lost marks", x.isTrue(), true);
        }
        Scene.type(x, "typed on");
        Check.same("with a text typed", x.isTrue(), true);
        Check.same("nothing is wiped by it", x.wipe(), 8);
    }
}
