import java.lang.reflect.Array;
import java.lang.reflect.Field;

/** Promise 39: isTrue holds in whatever state the calls have brought an object, and sees what they can't bring. */
final class TruthTest {
    private static final String TEXT = "abcdefgh";

    public static void main(String[] args) throws ReflectiveOperationException {
        Check.same("a new object", new Homewatcher().isTrue(), true);
        handedAndWithdrawn();
        heardAndLate();
        asMuchAsCanBe();
        seesWrongIndex();
        seesWrongVersion();
        Check.end();
    }

    private static void handedAndWithdrawn() {
        Homewatcher x = Scene.school();
        int a = Scene.handed(x, 0, 0, -1, TEXT);
        Check.same("one in", x.isTrue(), true);
        int b = Scene.handed(x, 0, 0, a, "abcdefghabcd");
        Check.same("two with the same shingles", x.isTrue(), true);
        x.withdraw(b);
        Check.same("one withdrawn", x.isTrue(), true);
        x.withdraw(a);
        Check.same("both withdrawn", x.isTrue(), true);
    }

    private static void heardAndLate() {
        Homewatcher x = Scene.room(3);
        for (int pupil = 0; pupil < 3; pupil++) {
            x.points(Scene.handed(x, pupil, 0, -1, TEXT), 90);
            x.pass(70);
            Check.same("frozen and late", x.isTrue(), true);
        }
        for (int hit = 0; hit < 3; hit++) {
            x.hear(hit, hit + 1);
            Check.same("heard, with lost marks", x.isTrue(), true);
        }
        Scene.type(x, "typed on");
        Check.same("with a text typed", x.isTrue(), true);
        Check.same("nothing is wiped by it", x.wipe(), 8);
    }

    private static void asMuchAsCanBe() {
        Homewatcher x = new Homewatcher();
        x.classroom(0);
        for (int pupil = 0; pupil < 12; pupil++) {
            x.pupil(0);
        }
        for (int task = 0; task < 10; task++) {
            x.task(0, 0, 100, 'g', 0);
        }
        for (int version = 0; version < 60; version++) {
            x.points(Scene.handed(x, version % 12, version % 10, -1, version % 30 == 11 ? TEXT : "none"), 100);
        }
        Check.same("full", x.isTrue(), true);
        Check.same("one hit freezes 2 of 120 marks, of which 60 are 100", x.meanMark(), 5800.0 / 118.0);
    }

    private static Homewatcher two() {
        Homewatcher x = Scene.room(2);
        Scene.handed(x, 0, 0, -1, TEXT);
        Scene.handed(x, 0, 0, -1, "abcdxyz");
        Scene.save(x, 1, 0, -1, TEXT);
        Check.same("without a fault", x.isTrue(), true);
        return x;
    }

    /** No call leads to a wrong index, so that the test has to write into the object. */
    private static void seesWrongIndex() throws ReflectiveOperationException {
        for (String row : new String[] {"keys", "counts"}) {
            for (int place : new int[] {0, 3, 7}) {
                Homewatcher x = two();
                Array.setInt(get(get(x, "shingleIndex"), row), place, 999999);
                Check.same("a wrong number in " + row, x.isTrue(), false);
            }
        }
        for (int place = 0; place < 8; place++) {
            for (int step = -1; step <= 1; step += 2) {
                Homewatcher x = two();
                Object counts = get(get(x, "shingleIndex"), "counts");
                Array.setInt(counts, place, Array.getInt(counts, place) + step);
                Check.same("a holder more or fewer", x.isTrue(), false);
            }
        }
        for (int size : new int[] {0, 7, 9}) {
            Homewatcher x = two();
            Check.same("indexed", x.indexed(), 8);
            set(get(x, "shingleIndex"), "size", size);
            Check.same("as many shingles as " + size, x.isTrue(), false);
        }
    }

    private static void seesWrongVersion() throws ReflectiveOperationException {
        for (int version = 0; version < 3; version++) {
            Homewatcher x = two();
            Object shingles = get(Array.get(get(x, "versions"), version), "shingles");
            Array.setInt(get(shingles, "keys"), 0, 1);
            Check.same("a wrong shingle of " + version, x.isTrue(), false);
        }
        Homewatcher x = two();
        set(Array.get(get(x, "versions"), 1), "withdrawn", true);
        Check.same("withdrawn, but in the index", x.isTrue(), false);
    }

    private static Field field(Object object, String name) throws ReflectiveOperationException {
        Field field = object.getClass().getDeclaredField(name);
        field.setAccessible(true);
        return field;
    }

    private static Object get(Object object, String name) throws ReflectiveOperationException {
        return field(object, name).get(object);
    }

    private static void set(Object object, String name, Object value) throws ReflectiveOperationException {
        field(object, name).set(object, value);
    }
}
