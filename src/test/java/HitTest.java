import java.util.NoSuchElementException;

/** Promises 29 to 33: the threshold, hits, and how they are heard. */
final class HitTest {
    private static final String TEXT = "abcdefgh";

    public static void main(String[] args) {
        promise29Threshold();
        promise29ThresholdAtHanding();
        promise30Hits();
        promise31Hit();
        promise31HitRefuses();
        promise32Hear();
        promise32HearRefuses();
        promise33Next();
        Check.end();
    }

    private static void promise29Threshold() {
        Homewatcher x = new Homewatcher();
        Check.same("at first", x.threshold(37), 3);
        Check.same("the one before", x.threshold(1), 37);
        Check.same("the one before", x.threshold(1), 1);
        Check.range("threshold", 1, 37, HitTest::three, (y, threshold) -> y.threshold(threshold));
    }

    /** Handed in behind TEXT by another pupil, at a threshold. */
    private static int hitsOf(int threshold, String text) {
        Homewatcher x = Scene.room(2);
        Scene.handed(x, 0, 0, -1, TEXT);
        x.threshold(threshold);
        return x.hand(Scene.save(x, 1, 0, -1, text));
    }

    private static void promise29ThresholdAtHanding() {
        Homewatcher first = Scene.room(2);
        Scene.handed(first, 0, 0, -1, TEXT);
        Check.same("two at the first one", first.hand(Scene.save(first, 1, 0, -1, "abcde")), 0);
        Check.same("three at the first one", first.hand(Scene.save(first, 1, 0, -1, "abcdef")), 1);
        Check.same("none at 1", hitsOf(1, "zzzz"), 0);
        Check.same("one at 1", hitsOf(1, "abcd"), 1);
        Check.same("four at 5", hitsOf(5, "abcdefg"), 0);
        Check.same("five at 5", hitsOf(5, TEXT), 1);
        Check.same("five at 6", hitsOf(6, "z".concat(TEXT)), 0);
        Check.same("the same shingle thrice", hitsOf(2, "abcdabcdabcd"), 0);
        Homewatcher most = Scene.room(2);
        most.threshold(37);
        String longest = "abcdefghijklmnopqrstuvwxyz zyxwvutsrqpon";
        Scene.handed(most, 0, 0, -1, longest);
        int copy = Scene.save(most, 1, 0, -1, longest);
        Check.same("unlike shingles", most.of(copy, 'u'), 37);
        Check.same("all at 37", most.hand(copy), 1);
        Homewatcher less = Scene.room(2);
        less.threshold(37);
        Scene.handed(less, 0, 0, -1, longest.substring(0, 39).concat("z"));
        int like = Scene.save(less, 1, 0, -1, longest);
        Check.same("36 in common", less.shared(0, like), 36);
        Check.same("36 at 37", less.hand(like), 0);
        less.threshold(36);
        Check.same("36 at 36", less.hand(Scene.save(less, 1, 0, -1, longest)), 1);
        first.threshold(1);
        Check.same("no hit comes by a lower one", first.hits(), 1);
        Check.same("nor goes by a higher one", afterHigher(), 1);
    }

    private static int afterHigher() {
        Homewatcher x = Scene.room(2);
        Scene.handed(x, 0, 0, -1, TEXT);
        Scene.handed(x, 1, 0, -1, TEXT);
        x.threshold(37);
        return x.hits();
    }

    /** Of pupils 0, 1, 2: hit 0 has 5 in common, hits 1 and 2 have 3. */
    private static Homewatcher three() {
        Homewatcher x = Scene.room(3);
        Scene.save(x, 2, 0, -1, "abcdef");
        Scene.save(x, 1, 0, -1, TEXT);
        Scene.save(x, 0, 0, -1, TEXT);
        x.hand(2);
        x.hand(1);
        x.hand(0);
        return x;
    }

    private static void promise30Hits() {
        Homewatcher x = three();
        Check.same("hits", x.hits(), 3);
        x.hear(1, 1);
        x.withdraw(0);
        x.withdraw(1);
        Check.same("heard and withdrawn ones too", x.hits(), 3);
        Check.same("a withdrawn one is no match", x.hand(Scene.save(x, 1, 0, -1, TEXT)), 1);
        Check.same("hits then", x.hits(), 4);
    }

    private static void promise31Hit() {
        Homewatcher x = three();
        int[][] due = {{1, 2, 5, -1}, {0, 1, 3, -1}, {0, 2, 3, -1}};
        for (int i = 0; i < due.length; i++) {
            for (int k = 0; k < 4; k++) {
                Check.same("hit " + i + " " + "noch".charAt(k), x.hit(i, "noch".charAt(k)), due[i][k]);
            }
        }
        for (int who = 0; who < 3; who++) {
            x.hear(who, who);
            Check.same("who lost", x.hit(who, 'h'), who);
        }
        x.withdraw(1);
        x.threshold(30);
        Check.same("for ever", x.hit(0, 'c'), 5);
        Check.same("for ever", x.hit(0, 'n'), 1);
        Check.same("for ever", x.hit(0, 'o'), 2);
        Homewatcher all = three();
        all.hear(1, 3);
        Check.same("both lost", all.hit(1, 'h'), 3);
        Check.same("not heard", all.hit(0, 'h'), -1);
    }

    private static void promise31HitRefuses() {
        Check.noSuch("hit", 3, HitTest::three, (y, hit) -> y.hit(hit, 'n'));
        for (char what : "NOCHabpz \0".toCharArray()) {
            Check.refuses("hit " + what, IllegalArgumentException.class, HitTest::three, y -> y.hit(0, what));
            Check.refuses("no hit " + what, IndexOutOfBoundsException.class, HitTest::three,
                    y -> y.hit(3, what));
        }
    }

    private static void promise32Hear() {
        Homewatcher x = three();
        Check.same("two are open", x.hear(1, 3), 2);
        Check.same("one is open", x.hear(0, 0), 1);
        Check.same("none is open", x.hear(2, 2), 0);
        Check.same("who lost by 1", x.hit(1, 'h'), 3);
        Check.same("who lost by 0", x.hit(0, 'h'), 0);
        Check.same("who lost by 2", x.hit(2, 'h'), 2);
        x.hand(Scene.save(x, 2, 0, -1, TEXT));
        Check.same("two came", x.hear(3, 0), 1);
    }

    private static Homewatcher heard() {
        Homewatcher x = three();
        x.hear(1, 0);
        return x;
    }

    private static void promise32HearRefuses() {
        Check.noSuch("hear", 3, HitTest::three, (y, hit) -> y.hear(hit, 0));
        Check.range("hear", 0, 3, HitTest::three, (y, who) -> y.hear(0, who));
        Check.refuses("hear again", UnsupportedOperationException.class, HitTest::heard, y -> y.hear(1, 1));
        Check.refuses("no hit ahead of who", IndexOutOfBoundsException.class, HitTest::heard, y -> y.hear(3, 4));
        Check.refuses("who ahead of heard", IllegalArgumentException.class, HitTest::heard, y -> y.hear(1, 4));
    }

    private static void promise33Next() {
        Homewatcher x = three();
        Check.same("the most in common", x.next(), 0);
        x.hear(0, 0);
        Check.same("the earliest of several", x.next(), 1);
        x.hear(2, 0);
        Check.same("the open one", x.next(), 1);
        x.hand(Scene.save(x, 1, 0, -1, TEXT));
        Check.same("a later one with more", x.next(), 4);
        Check.same("it is not heard by that", x.next(), 4);
        x.hear(4, 1);
        x.hear(1, 1);
        x.hear(3, 1);
        Check.fails("none is open", NoSuchElementException.class, x::next);
        Homewatcher least = Scene.room(2);
        least.threshold(1);
        Scene.handed(least, 0, 0, -1, "abcd");
        Scene.handed(least, 1, 0, -1, "abcd");
        Check.same("one in common", least.next(), 0);
        Check.refuses("no hits", NoSuchElementException.class, () -> Scene.room(1), Homewatcher::next);
    }
}
