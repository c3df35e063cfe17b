import java.util.NoSuchElementException;
import java.util.TreeSet;

/** Promises 25 to 28: shingles that versions share, and the index of them. */
final class IndexTest {
    public static void main(String[] args) {
        promise25Shared();
        promise26Shingle();
        promise26ShingleOfFaces();
        promise26ShingleRefuses();
        promise27Indexed();
        promise28Holders();
        promise28HoldersMost();
        indexOfLongTexts();
        indexOfMostTexts();
        Check.end();
    }

    private static TreeSet<Integer> shingles(String text) {
        int[] codes = text.codePoints().toArray();
        TreeSet<Integer> all = new TreeSet<>();
        for (int i = 0; i + 3 < codes.length; i++) {
            int h = 0;
            for (int k = i; k < i + 4; k++) {
                h = Integer.rotateLeft(h, 5) ^ codes[k];
            }
            all.add(h & ((1 << 20) - 1));
        }
        return all;
    }

    private static Homewatcher two() {
        Homewatcher x = Scene.room(2);
        Scene.save(x, 0, 0, -1, "abcdefgh");
        Scene.save(x, 1, 0, -1, "zabcdezabcde");
        return x;
    }

    private static void promise25Shared() {
        Homewatcher x = two();
        Check.same("in common: abcd, bcde", x.shared(0, 1), 2);
        Check.same("the other way", x.shared(1, 0), 2);
        Check.same("with itself", x.shared(0, 0), 5);
        Check.same("with itself, unlike ones", x.shared(1, 1), x.of(1, 'u'));
        Scene.save(x, 0, 0, -1, "abc");
        Check.same("without shingles", x.shared(0, 2), 0);
        Check.same("without shingles, itself", x.shared(2, 2), 0);
        Check.noSuch("shared", 2, IndexTest::two, (y, version) -> y.shared(version, 0));
        Check.noSuch("shared with", 2, IndexTest::two, (y, other) -> y.shared(0, other));
    }

    private static void promise26Shingle() {
        String[] texts = {"abcd", "zyxwvutsrq", "aaaaaaaa", "abcabcabcabc", "the quick brown fox jumps over the lazy",
            "abcdefghijklmnopqrstuvwxyzabcdefghijklmn", "zabc zabc abc", "aaab"};
        for (String text : texts) {
            rowIsDue(text);
        }
        Homewatcher x = Scene.room(1);
        Scene.save(x, 0, 0, -1, "abcd");
        int due = ((97 << 15) ^ (98 << 10) ^ (99 << 5) ^ 100) & 0xFFFFF;
        Check.same("shingle of abcd", x.shingle(0, 0), due);
        Scene.save(x, 0, 0, -1, "zzzz");
        Check.same("shingle of zzzz, of 20 bits", x.shingle(1, 0), ((122 << 15) ^ (122 << 10) ^ (122 << 5) ^ 122) % (1 << 20));
    }

    private static void rowIsDue(String text) {
        Homewatcher x = Scene.room(1);
        Scene.save(x, 0, 0, -1, text);
        Check.same("unlike of " + text, x.of(0, 'u'), shingles(text).size());
        int index = 0;
        for (int due : shingles(text)) {
            Check.same("shingle " + index + " of " + text, x.shingle(0, index), due);
            index++;
        }
        int behind = index;
        Check.fails("shingle behind the last", NoSuchElementException.class, () -> x.shingle(0, behind));
    }

    private static void promise26ShingleOfFaces() {
        StringBuilder text = new StringBuilder();
        for (int i = 0; i < 36; i++) {
            text.appendCodePoint(128512 + i * 7 % 80);
        }
        rowIsDue(text.append("ab c").toString());
        Homewatcher x = Scene.room(1);
        for (int i = 0; i < 3; i++) {
            x.type(128512);
        }
        x.save(0, 0, -1, 0);
        Check.same("three signs of six chars", x.of(0, 'u'), 0);
    }

    private static void promise26ShingleRefuses() {
        Check.noSuch("shingle", 2, IndexTest::two, (y, version) -> y.shingle(version, 0));
        for (int index : new int[] {-1, 5, 6, 36, 37, Integer.MIN_VALUE, Integer.MAX_VALUE}) {
            Check.refuses("shingle " + index, NoSuchElementException.class, IndexTest::two,
                    y -> y.shingle(0, index));
        }
        Check.refuses("no version ahead of no shingle", IndexOutOfBoundsException.class, IndexTest::two,
                y -> y.shingle(2, -1));
    }

    private static void promise27Indexed() {
        Homewatcher x = two();
        Check.same("none is in", x.indexed(), 0);
        x.hand(0);
        Check.same("one", x.indexed(), 5);
        x.hand(1);
        Check.same("unlike ones of both", x.indexed(), 5 + x.of(1, 'u') - 2);
        x.withdraw(0);
        Check.same("those shared stay", x.indexed(), x.of(1, 'u'));
        x.withdraw(1);
        Check.same("none again", x.indexed(), 0);
    }

    private static void promise28Holders() {
        Homewatcher x = two();
        int abcd = shingles("abcd").first();
        int zabc = shingles("zabc").first();
        Check.same("none is in", x.holders(abcd), 0);
        x.hand(0);
        x.hand(1);
        Check.same("both", x.holders(abcd), 2);
        Check.same("one that has it twice", x.holders(zabc), 1);
        x.withdraw(0);
        Check.same("one is left", x.holders(abcd), 1);
        int[] none = {-1, 0, 1 << 20, abcd - 1, abcd + 1, abcd + (1 << 20), Integer.MIN_VALUE, Integer.MAX_VALUE};
        for (int shingle : none) {
            Check.same("holders of " + shingle, x.holders(shingle), 0);
        }
        x.withdraw(1);
        Check.same("none is left", x.holders(abcd), 0);
        for (int shingle : none) {
            Check.same("holders of " + shingle + " then", x.holders(shingle), 0);
        }
    }

    private static void promise28HoldersMost() {
        Homewatcher x = Scene.room(1);
        for (int i = 0; i < 60; i++) {
            Scene.handed(x, 0, 0, -1, "abcd");
        }
        int abcd = shingles("abcd").first();
        Check.same("held by all", x.holders(abcd), 60);
        Check.same("one unlike", x.indexed(), 1);
        for (int i = 59; i > 0; i--) {
            x.withdraw(i);
        }
        Check.same("held by the first", x.holders(abcd), 1);
        Check.same("one still", x.indexed(), 1);
        x.withdraw(0);
        Check.same("held by none", x.holders(abcd), 0);
        Check.same("none indexed", x.indexed(), 0);
        Check.same("the version has it still", x.shingle(0, 0), abcd);
    }

    /** Texts of 40 signs, letters and faces, with hardly a shingle in common. */
    private static String[] longTexts(int count) {
        String[] texts = new String[count];
        long seed = 7;
        for (int i = 0; i < count; i++) {
            StringBuilder text = new StringBuilder();
            for (int k = 0; k < 40; k++) {
                seed = seed * 6364136223846793005L + 1442695040888963407L;
                int dice = (int) (seed >>> 40);
                text.appendCodePoint((seed >>> 63) == 0 ? 97 + dice % 26 : 128512 + dice % 80);
            }
            texts[i] = text.toString();
        }
        return texts;
    }

    private static TreeSet<Integer> shinglesOf(String[] texts, int first, int step) {
        TreeSet<Integer> all = new TreeSet<>();
        for (int i = first; i < texts.length; i += step) {
            all.addAll(shingles(texts[i]));
        }
        return all;
    }

    private static void indexOfLongTexts() {
        Homewatcher x = Scene.room(1);
        String[] texts = longTexts(10);
        for (String text : texts) {
            Scene.handed(x, 0, 0, -1, text);
        }
        Check.same("many indexed", x.indexed(), shinglesOf(texts, 0, 1).size());
        Check.same("isTrue", x.isTrue(), true);
        for (int i = 1; i < texts.length; i++) {
            TreeSet<Integer> both = shingles(texts[i - 1]);
            both.retainAll(shingles(texts[i]));
            Check.same("shared by full rows", x.shared(i - 1, i), both.size());
            Check.same("shared the other way", x.shared(i, i - 1), both.size());
        }
        for (int i = 0; i < texts.length; i += 2) {
            x.withdraw(i);
        }
        Check.same("every other one indexed", x.indexed(), shinglesOf(texts, 1, 2).size());
        Check.same("isTrue then", x.isTrue(), true);
        Check.same("holders of the first", x.holders(shingles(texts[1]).first()) > 0, true);
    }

    /** 12 texts of 40 signs are as many as 512 calls can bring into the index. */
    private static void indexOfMostTexts() {
        Homewatcher x = Scene.room(1);
        String[] texts = longTexts(12);
        for (String text : texts) {
            Scene.handed(x, 0, 0, -1, text);
        }
        Check.same("the most indexed", x.indexed(), shinglesOf(texts, 0, 1).size());
        Check.same("isTrue with the most", x.isTrue(), true);
        x.withdraw(11);
        Check.same("isTrue with one less", x.isTrue(), true);
    }
}
