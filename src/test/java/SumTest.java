/** Promises 34 to 37: sums of texts, packed versions, and the share of those in. */
final class SumTest {
    private static final String[] TEXTS = {"", "a", "zz", "abcdefgh ", "zzzzzzzzzzzzzzzzzzzzzzzzzzzzzzzzzzzzzzzz"};

    public static void main(String[] args) {
        promise34ByteSum();
        promise35ShortSum();
        promise36Packed();
        promise37InShare();
        Check.end();
    }

    private static Homewatcher saved(String text) {
        Homewatcher x = Scene.room(1);
        Scene.save(x, 0, 0, -1, text);
        return x;
    }

    private static String faces() {
        StringBuilder text = new StringBuilder();
        for (int i = 0; i < 40; i++) {
            text.appendCodePoint(128512 + 2 * i);
        }
        return text.toString();
    }

    private static byte byteSum(String text) {
        long sum = 0;
        for (char one : text.toCharArray()) {
            sum += one;
        }
        return (byte) sum;
    }

    private static short shortSum(String text) {
        return (short) text.hashCode();
    }

    private static void promise34ByteSum() {
        for (String text : TEXTS) {
            Check.same("byteSum of " + text, saved(text).byteSum(0), byteSum(text));
        }
        Check.same("byteSum of faces", saved(faces()).byteSum(0), byteSum(faces()));
        Check.same("byteSum of zz", saved("zz").byteSum(0), (byte) -12);
        Check.same("byteSum up to 127", saved("zzk ").byteSum(0), Byte.MAX_VALUE);
        Check.same("byteSum beyond 127", saved("zzl ").byteSum(0), Byte.MIN_VALUE);
        Check.same("byteSum up to 255", saved("ze ").byteSum(0), (byte) -1);
        Check.same("byteSum beyond 255", saved("zf ").byteSum(0), (byte) 0);
        Check.noSuch("byteSum", 1, () -> saved("ab"), (y, version) -> y.byteSum(version));
    }

    private static void promise35ShortSum() {
        for (String text : TEXTS) {
            Check.same("shortSum of " + text, saved(text).shortSum(0), shortSum(text));
        }
        Check.same("shortSum of faces", saved(faces()).shortSum(0), shortSum(faces()));
        Check.same("shortSum of ab", saved("ab").shortSum(0), (short) (97 * 31 + 98));
        Check.same("shortSum below 32768", saved("  z").shortSum(0), (short) 31866);
        Check.same("shortSum beyond 32767", saved(" a ").shortSum(0), (short) -31745);
        Check.noSuch("shortSum", 1, () -> saved("ab"), (y, version) -> y.shortSum(version));
    }

    private static void promise36Packed() {
        Homewatcher x = Scene.school();
        Check.same("of zeros", saved("").packed(0), 0L);
        for (int i = 0; i < 10; i++) {
            x.pass(100000 - i);
        }
        for (int i = 0; i < 59; i++) {
            x.save(0, 1, -1, 0);
        }
        int last = Scene.save(x, 2, 2, -1, "zz");
        long due = 59L * (1L << 48) + 244L * (1L << 40) + 2L * (1L << 36) + 2L * (1L << 32) + 999955L;
        Check.same("packed", x.packed(last), due);
        Check.same("packed 1", x.packed(1), (1L << 48) + (1L << 32) + 999955L);
        Homewatcher most = new Homewatcher();
        most.classroom(0);
        for (int i = 0; i < 12; i++) {
            most.pupil(0);
        }
        for (int i = 0; i < 10; i++) {
            most.task(0, 0, 1, 'h', 0);
            most.pass(100000);
        }
        for (int i = 0; i < 59; i++) {
            most.save(0, 0, -1, 0);
        }
        Scene.save(most, 11, 9, -1, "ze ");
        Check.same("packed, each number the most", most.packed(59), 59L << 48 | 255L << 40 | 11L << 36 | 9L << 32 | 1000000);
        Check.noSuch("packed", 1, () -> saved("ab"), (y, version) -> y.packed(version));
    }

    private static Homewatcher noVersion() {
        Homewatcher x = Scene.room(1);
        Scene.type(x, "abc");
        return x;
    }

    private static void promise37InShare() {
        Homewatcher x = Scene.room(1);
        Check.refuses("without versions", ArithmeticException.class, SumTest::noVersion, Homewatcher::inShare);
        for (int i = 0; i < 3; i++) {
            x.save(0, 0, -1, 0);
        }
        Check.same("none of three", x.inShare(), 0f);
        x.hand(1);
        Check.same("one of three", x.inShare(), 1f / 3f);
        x.hand(0);
        x.hand(2);
        Check.same("all", x.inShare(), 1f);
        x.withdraw(0);
        Check.same("two of three", x.inShare(), 2f / 3f);
        for (int i = 3; i < 60; i++) {
            x.save(0, 0, -1, 0);
        }
        Check.same("two of sixty", x.inShare(), 2f / 60f);
    }
}
