import java.util.NoSuchElementException;

/** Promises 7 to 11: the text that is typed. */
final class TextTest {
    private static final int GRIN = 128512;
    private static final int LAST_FACE = 128591;

    public static void main(String[] args) {
        promise7Type();
        promise7TypeRefuses();
        promise8Insert();
        promise8InsertRefuses();
        promise9Reverse();
        promise10Wipe();
        promise11CharAt();
        Check.end();
    }

    private static Homewatcher typed(String text) {
        Homewatcher x = new Homewatcher();
        Scene.type(x, text);
        return x;
    }

    private static Homewatcher fullText() {
        return typed("a".repeat(40));
    }

    private static String read(Homewatcher x, int chars) {
        StringBuilder text = new StringBuilder();
        for (int i = 0; i < chars; i++) {
            text.append(x.charAt(i));
        }
        Check.fails("char behind the text", NoSuchElementException.class, () -> x.charAt(chars));
        return text.toString();
    }

    private static void promise7Type() {
        Homewatcher x = new Homewatcher();
        int[] codes = {97, 122, 32, GRIN, LAST_FACE};
        for (int i = 0; i < codes.length; i++) {
            Check.same("type " + codes[i], x.type(codes[i]), i + 1);
        }
        Check.same("text", read(x, 7), new String(codes, 0, codes.length));
        Homewatcher full = new Homewatcher();
        for (int i = 0; i < 40; i++) {
            Check.same("type up to 40", full.type(GRIN + i), i + 1);
        }
        Check.same("wipe of 40", full.wipe(), 40);
    }

    private static void promise7TypeRefuses() {
        int[] bad = {96, 123, 31, 33, 0, -1, 65, GRIN - 1, LAST_FACE + 1, 55357,
            97 + 65536, Integer.MIN_VALUE, Integer.MAX_VALUE};
        for (int code : bad) {
            Check.refuses("type " + code, IllegalArgumentException.class, () -> typed("ab"), y -> y.type(code));
            Check.refuses("insert " + code, IllegalArgumentException.class, () -> typed("ab"),
                    y -> y.insert(1, code));
        }
        Check.refuses("type 41", IllegalStateException.class, TextTest::fullText, y -> y.type(97));
        Check.refuses("bad type 41", IllegalArgumentException.class, TextTest::fullText, y -> y.type(96));
    }

    private static void promise8Insert() {
        Homewatcher x = new Homewatcher();
        Check.same("insert into nothing", x.insert(0, 'b'), 1);
        Check.same("insert a face ahead", x.insert(0, GRIN), 3);
        Check.same("insert behind the face", x.insert(1, ' '), 4);
        Check.same("insert at the end", x.insert(3, LAST_FACE), 6);
        Check.same("insert amid", x.insert(2, 'a'), 7);
        StringBuilder due = new StringBuilder();
        due.appendCodePoint(GRIN).append(" ab").appendCodePoint(LAST_FACE);
        Check.same("text", read(x, 7), due.toString());
        Check.same("signs then", x.type('z'), 6);
        Homewatcher most = typed("b".repeat(39));
        Check.same("insert the 40th", most.insert(0, GRIN), 41);
        Check.same("first of 40", (int) most.charAt(0), 0xD83D);
    }

    private static void promise8InsertRefuses() {
        for (int place : new int[] {-1, 4, 5, Integer.MIN_VALUE, Integer.MAX_VALUE}) {
            Check.refuses("insert at " + place, IndexOutOfBoundsException.class, () -> typed("abc"),
                    y -> y.insert(place, 'a'));
        }
        Check.refuses("a place is no place of chars", IndexOutOfBoundsException.class,
                () -> typed(new String(new int[] {GRIN}, 0, 1)), y -> y.insert(2, 'a'));
        Check.refuses("no place ahead of no sign", IndexOutOfBoundsException.class, TextTest::fullText,
                y -> y.insert(41, 0));
        Check.refuses("no sign ahead of full", IllegalArgumentException.class, TextTest::fullText,
                y -> y.insert(40, 0));
        Check.refuses("insert when full", IllegalStateException.class, TextTest::fullText,
                y -> y.insert(40, 'a'));
        Check.refuses("insert ahead when full", IllegalStateException.class, TextTest::fullText,
                y -> y.insert(0, 'a'));
    }

    private static void promise9Reverse() {
        Homewatcher x = new Homewatcher();
        Check.same("reverse of nothing", x.reverse(), 0);
        x.type('a');
        Check.same("reverse of one", x.reverse(), 97);
        x.type('b');
        x.type(GRIN);
        Check.same("reverse", x.reverse(), GRIN);
        StringBuilder due = new StringBuilder().appendCodePoint(GRIN).append("ba");
        Check.same("text", read(x, 4), due.toString());
        Check.same("reverse again", x.reverse(), 97);
        Check.same("text again", read(x, 4), new StringBuilder("ab").appendCodePoint(GRIN).toString());
        Check.same("three signs still", x.wipe(), 3);
        Check.same("reverse of a wiped text", x.reverse(), 0);
        Homewatcher saved = Scene.room(1);
        Scene.save(saved, 0, 0, -1, "abc");
        Check.same("reverse of a saved text", saved.reverse(), 0);
        Homewatcher most = fullText();
        most.wipe();
        Scene.type(most, "z".concat("a".repeat(38)).concat("b"));
        Check.same("reverse of 40", most.reverse(), 98);
        Check.same("the last of 40", most.charAt(39), 'z');
    }

    private static void promise10Wipe() {
        Homewatcher x = typed("abc");
        x.type(GRIN);
        Check.same("wipe", x.wipe(), 4);
        Check.same("wipe again", x.wipe(), 0);
        Check.same("text", read(x, 0), "");
        Check.same("type then", x.type('z'), 1);
        Check.same("text then", read(x, 1), "z");
    }

    private static Homewatcher wiped() {
        Homewatcher x = typed("abcd");
        x.wipe();
        return x;
    }

    private static void promise11CharAt() {
        Homewatcher x = typed("q");
        x.type(LAST_FACE);
        x.type(' ');
        Check.same("letter", x.charAt(0), 'q');
        Check.same("high char", (int) x.charAt(1), 0xD83D);
        Check.same("low char", (int) x.charAt(2), 0xDE4F);
        Check.same("space", x.charAt(3), ' ');
        Homewatcher most = new Homewatcher();
        for (int i = 0; i < 40; i++) {
            most.type(LAST_FACE - i);
        }
        Check.same("the first of 80 chars", (int) most.charAt(0), 0xD83D);
        Check.same("the last of 80 chars", (int) most.charAt(79), 0xDE4F - 39);
        Check.fails("char 80", NoSuchElementException.class, () -> most.charAt(80));
        Check.refuses("charAt 0 of nothing", NoSuchElementException.class, Homewatcher::new, y -> y.charAt(0));
        Check.refuses("charAt 0 of a wiped text", NoSuchElementException.class, TextTest::wiped,
                y -> y.charAt(0));
        for (int place : new int[] {-1, 4, 5, Integer.MIN_VALUE, Integer.MAX_VALUE}) {
            Check.refuses("charAt " + place, NoSuchElementException.class, () -> typed("abcd"),
                    y -> y.charAt(place));
        }
    }
}
