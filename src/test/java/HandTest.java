import java.util.NoSuchElementException;

/** Promises 16 to 19 and 22: handing in, withdrawing, what counts, and how late it is. */
final class HandTest {
    private static final String TEXT = "abcdefgh";
    private static final String LONGEST = "abcdefghijklmnopqrstuvwxyz zyxwvutsrqpon";

    public static void main(String[] args) {
        promise16Hand();
        promise16HandBesideThoseIn();
        promise16HandRefuses();
        promise16HandFortyHits();
        promise17Withdraw();
        promise17WithdrawByClock();
        promise17WithdrawByTask();
        promise17WithdrawAtTheEnds();
        promise17WithdrawRefuses();
        promise18IsIn();
        promise19Late();
        promise19LateByAncestor();
        promise19LateHalf();
        promise19LateHalfOfFew();
        promise19LateChain();
        promise19LateByTask();
        promise19LateMost();
        promise19LateRefuses();
        promise22Counting();
        Check.end();
    }

    private static void promise16Hand() {
        Homewatcher x = Scene.school();
        int a = Scene.save(x, 0, 0, -1, TEXT);
        int b = Scene.save(x, 0, 1, -1, TEXT);
        int c = Scene.save(x, 1, 0, -1, TEXT);
        int d = Scene.save(x, 2, 2, -1, TEXT);
        Check.same("first in", x.hand(a), 0);
        Check.same("the same pupil makes no hit", x.hand(b), 0);
        Check.same("both of another pupil", x.hand(c), 2);
        Check.same("another class too", x.hand(d), 3);
        Check.same("hits", x.hits(), 5);
        Check.same("handed in now", x.of(d, 'h'), 0);
        x.pass(4);
        int e = Scene.save(x, 1, 1, -1, "unlike it all");
        Check.same("unlike text", x.hand(e), 0);
        Check.same("handed in later", x.of(e, 'h'), 4);
    }

    private static void promise16HandBesideThoseIn() {
        Homewatcher x = Scene.room(2);
        int never = Scene.save(x, 0, 0, -1, TEXT);
        int gone = Scene.handed(x, 0, 0, -1, TEXT);
        x.withdraw(gone);
        Check.same("beside none that is in", x.hand(Scene.save(x, 1, 0, -1, TEXT)), 0);
        Check.same("beside one that is in", x.hand(never), 1);
        Check.same("the one that is in", x.hit(0, 'o'), 2);
        Check.same("an empty text is like none", x.hand(x.save(1, 0, -1, 0)), 0);
        Check.same("nor like another empty one", x.hand(x.save(0, 0, -1, 0)), 0);
    }

    /** Version 0 is in, 1 is withdrawn, 2 was never handed in. */
    private static Homewatcher three() {
        Homewatcher x = Scene.room(2);
        Scene.handed(x, 0, 0, -1, TEXT);
        x.withdraw(Scene.handed(x, 0, 0, 0, "other text"));
        Scene.save(x, 1, 0, -1, "third text");
        return x;
    }

    private static void promise16HandRefuses() {
        Check.noSuch("hand", 3, HandTest::three, (y, version) -> y.hand(version));
        Check.refuses("hand again", UnsupportedOperationException.class, HandTest::three, y -> y.hand(0));
        Check.refuses("hand a withdrawn one", UnsupportedOperationException.class, HandTest::three,
                y -> y.hand(1));
    }

    /** 38 hits: 36 of six equal texts of two pupils each, and 2 of version 14 with 12 and 13. */
    private static Homewatcher crowded() {
        Homewatcher x = Scene.room(3);
        for (int i = 0; i < 6; i++) {
            Scene.handed(x, 0, 0, -1, TEXT);
        }
        for (int i = 0; i < 6; i++) {
            Scene.handed(x, 1, 0, -1, TEXT);
        }
        Scene.handed(x, 0, 0, -1, "zzzzyyyyxxxx");
        Scene.handed(x, 0, 0, -1, "zzzzyyyy vvvv");
        Scene.handed(x, 1, 0, -1, "zzzzyyyyxxxx");
        x.points(14, 60);
        Scene.handed(x, 2, 0, -1, "vvvv wwww");
        return x;
    }

    private static void promise16HandFortyHits() {
        Homewatcher x = crowded();
        Check.same("hits", x.hits(), 38);
        int three = Scene.save(x, 2, 0, -1, "zzzzyyyy");
        int two = Scene.save(x, 2, 0, -1, "zzzyyyyxx");
        int one = Scene.save(x, 2, 0, -1, "yyyy vvv");
        int none = Scene.save(x, 2, 0, -1, "kkkkllll");
        Check.refuses("41 hits", IllegalStateException.class, () -> crowdedWith("zzzzyyyy"), y -> y.hand(16));
        Check.fails("41 hits", IllegalStateException.class, () -> x.hand(three));
        Check.same("nothing was handed in", x.isIn(three), false);
        Check.same("one more", x.hand(one), 1);
        Check.fails("42 hits", IllegalStateException.class, () -> x.hand(two));
        Check.same("none more", x.hand(none), 0);
        Check.same("hits", x.hits(), 39);
        Check.same("a hit up to 40", x.hand(Scene.save(x, 2, 0, -1, "y vvvv")), 1);
        Check.same("forty", x.hits(), 40);
        Check.same("none above forty", x.hand(Scene.save(x, 2, 0, -1, "mmmmnnnn")), 0);
        Check.fails("one above forty", IllegalStateException.class, () -> x.hand(three));
        Check.fails("handed in ahead of hits", UnsupportedOperationException.class, () -> x.hand(one));
        Check.fails("no version ahead of hits", IndexOutOfBoundsException.class, () -> x.hand(22));
        fortyAreSeen(x);
        x.threshold(37);
        Check.same("handed in at last", x.hand(three), 0);
    }

    private static void fortyAreSeen(Homewatcher x) {
        Check.same("the last of forty", x.hit(39, 'n'), 20);
        Check.same("of pupil 2", x.isFrozen(2, 0), true);
        Check.same("the next", x.next(), 36);
        for (int hit = 0; hit < 39; hit++) {
            Check.same("hear", x.hear(hit, 0), 39 - hit);
        }
        Check.same("frozen by the last", x.isFrozen(2, 0), true);
        Check.same("by the last alone", x.next(), 39);
        Check.same("none is open", x.hear(39, 1), 0);
        Check.same("thawed", x.isFrozen(2, 0), false);
        Check.same("lost by the last", x.mark(2, 0), 0);
        Check.same("not lost", x.mark(1, 0), 60);
    }

    private static Homewatcher crowdedWith(String text) {
        Homewatcher x = crowded();
        Scene.save(x, 2, 0, -1, text);
        return x;
    }

    private static void promise17Withdraw() {
        Homewatcher x = Scene.school();
        int a = Scene.handed(x, 0, 0, -1, TEXT);
        int b = Scene.handed(x, 0, 0, a, "other text");
        int c = Scene.handed(x, 0, 0, -1, "third text");
        int d = Scene.handed(x, 0, 1, -1, "for task one");
        Check.same("another counts then", x.withdraw(c), true);
        Check.same("b counts", x.counting(0, 0), b);
        Check.same("b counts still", x.withdraw(a), true);
        Check.same("none counts then", x.withdraw(b), false);
        Check.same("another task", x.counting(0, 1), d);
        Check.same("not in any more", x.isIn(b), false);
        Check.same("the index forgets them", x.indexed(), x.of(d, 'u'));
    }

    private static void promise17WithdrawByClock() {
        Homewatcher x = new Homewatcher();
        x.classroom(-60);
        x.classroom(60);
        x.pupil(0);
        x.pupil(1);
        x.task(0, 10, 100, 'h', 1);
        x.task(1, 100, 100, 'h', 1);
        int slow = Scene.handed(x, 0, 0, -1, "slow");
        int slower = Scene.handed(x, 0, 0, -1, "slower");
        int fast = Scene.handed(x, 1, 1, -1, "fast");
        int faster = Scene.handed(x, 1, 1, -1, "faster");
        x.pass(40);
        Check.same("in the due minute", x.withdraw(fast), true);
        x.pass(1);
        Check.fails("behind it", UnsupportedOperationException.class, () -> x.withdraw(faster));
        x.pass(29);
        Check.same("in the due minute of the slow clock", x.withdraw(slow), true);
        x.pass(1);
        Check.fails("behind it", UnsupportedOperationException.class, () -> x.withdraw(slower));
        Check.same("in still", x.isIn(slower), true);
    }

    /** Pupil 1 is for task 0 what neither pupil 0 is for it nor pupil 1 for task 1. */
    private static void promise17WithdrawByTask() {
        Homewatcher x = Scene.school();
        Scene.handed(x, 0, 0, -1, "aaaa");
        Scene.handed(x, 1, 1, -1, "bbbb");
        int alone = Scene.handed(x, 1, 0, -1, "cccc");
        x.pass(60);
        Check.same("task 1 was due at 50, task 0 is not", x.withdraw(alone), false);
        int two = Scene.handed(x, 1, 0, -1, "dddd");
        Scene.handed(x, 1, 0, -1, "eeee");
        Check.same("one more of both", x.withdraw(two), true);
        Check.fails("of task 1", UnsupportedOperationException.class, () -> x.withdraw(1));
    }

    private static Homewatcher due(int offset, int due) {
        Homewatcher x = new Homewatcher();
        x.classroom(offset);
        x.pupil(0);
        x.task(0, due, 100, 'h', 1);
        Scene.handed(x, 0, 0, -1, TEXT);
        Scene.handed(x, 0, 0, -1, "zzzz");
        return x;
    }

    private static Homewatcher at(int minute, Homewatcher x) {
        int left = minute;
        for (; left > 100000; left -= 100000) {
            x.pass(100000);
        }
        if (left > 0) {
            x.pass(left);
        }
        return x;
    }

    private static void promise17WithdrawAtTheEnds() {
        Class<UnsupportedOperationException> late = UnsupportedOperationException.class;
        Check.same("due at 0, in the minute 0", due(0, 0).withdraw(0), true);
        Check.refuses("due at 0, behind it", late, () -> at(1, due(0, 0)), y -> y.withdraw(0));
        Check.refuses("due ahead of the first minute", late, () -> due(720, 719), y -> y.withdraw(0));
        Check.same("due in the first minute", due(720, 720).withdraw(1), true);
        Check.same("due at 0, the clock goes behind", at(720, due(-720, 0)).withdraw(1), true);
        Check.refuses("due at 0, the clock behind", late, () -> at(721, due(-720, 0)), y -> y.withdraw(0));
        Check.same("due at the end", at(1000000, due(0, 1000000)).withdraw(0), true);
        Check.same("due at the end of a clock ahead", at(999280, due(720, 1000000)).withdraw(0), true);
        Check.refuses("behind the end of a clock ahead", late, () -> at(999281, due(720, 1000000)),
                y -> y.withdraw(0));
    }

    private static void promise17WithdrawRefuses() {
        Check.noSuch("withdraw", 3, HandTest::three, (y, version) -> y.withdraw(version));
        Class<UnsupportedOperationException> due = UnsupportedOperationException.class;
        Check.refuses("withdraw again", due, HandTest::three, y -> y.withdraw(1));
        Check.refuses("withdraw what is not in", due, HandTest::three, y -> y.withdraw(2));
        Check.refuses("withdraw behind the due minute", due, () -> later(three(), 101), y -> y.withdraw(0));
    }

    private static Homewatcher later(Homewatcher x, int minutes) {
        x.pass(minutes);
        return x;
    }

    private static void promise18IsIn() {
        Homewatcher x = three();
        Check.same("handed in", x.isIn(0), true);
        Check.same("withdrawn", x.isIn(1), false);
        Check.same("never", x.isIn(2), false);
        x.pass(1000);
        Check.same("in for good", x.isIn(0), true);
        Check.noSuch("isIn", 3, HandTest::three, (y, version) -> y.isIn(version));
    }

    private static void promise19Late() {
        Homewatcher x = new Homewatcher();
        x.classroom(30);
        x.pupil(0);
        x.task(0, 100, 100, 'h', 1);
        int early = Scene.handed(x, 0, 0, -1, "early");
        x.pass(70);
        int just = Scene.handed(x, 0, 0, -1, "just");
        int late = Scene.save(x, 0, 0, -1, "late");
        x.pass(1);
        x.hand(late);
        int later = Scene.save(x, 0, 0, -1, "later");
        x.pass(2000);
        x.hand(later);
        Check.same("early", x.late(early), 0);
        Check.same("in the due minute", x.late(just), 0);
        Check.same("by the handing, not the saving", x.late(late), 1);
        Check.same("much later", x.late(later), 2001);
    }

    /** Late by 400 at the end: 0 in time, 1 late by 50, 2 late by 400. */
    private static Homewatcher line(String first, String second, String third) {
        Homewatcher x = Scene.room(2);
        Scene.handed(x, 0, 0, -1, first);
        x.pass(150);
        Scene.handed(x, 0, 0, 0, second);
        x.pass(350);
        Scene.handed(x, 0, 0, 1, third);
        return x;
    }

    private static void promise19LateByAncestor() {
        Check.same("the least counts", line(TEXT, TEXT, TEXT).late(2), 0);
        Check.same("unlike the first", line("zzzz", TEXT, TEXT).late(2), 50);
        Check.same("unlike the parent", line(TEXT, "zzzz", TEXT).late(2), 0);
        Check.same("unlike both", line("yyyy", "zzzz", TEXT).late(2), 400);
        Check.same("an empty text needs none", line("yyyy", "zzzz", "").late(2), 0);
        Homewatcher x = Scene.room(1);
        int lateParent = Scene.save(x, 0, 0, -1, TEXT);
        int child = Scene.save(x, 0, 0, lateParent, TEXT);
        x.pass(160);
        x.hand(child);
        Check.same("an ancestor that is not in", x.late(child), 60);
        x.pass(40);
        x.hand(lateParent);
        Check.same("an ancestor that was later", x.late(child), 60);
        Check.same("a child does not help", x.late(lateParent), 100);
        Homewatcher gone = Scene.room(1);
        int withdrawn = Scene.handed(gone, 0, 0, -1, TEXT);
        gone.withdraw(withdrawn);
        gone.pass(130);
        Check.same("a withdrawn ancestor", gone.late(Scene.handed(gone, 0, 0, withdrawn, TEXT)), 30);
        Homewatcher fork = Scene.room(1);
        Scene.handed(fork, 0, 0, -1, TEXT);
        fork.pass(130);
        Check.same("a fork is no ancestor", fork.late(Scene.handed(fork, 0, 0, -1, TEXT)), 30);
    }

    private static void promise19LateHalf() {
        Check.same("2 of 5 are half, cut", line("abcde", "zzzz", TEXT).late(2), 0);
        Check.same("1 of 5 is less", line("abcd", "zzzz", TEXT).late(2), 400);
        Check.same("2 of 6 are less", line("abcde", "zzzz", "abcdefghi").late(2), 400);
        Check.same("3 of 6 are half", line("abcdef", "zzzz", "abcdefghi").late(2), 0);
        Check.same("half of the version's, not of the ancestor's",
                line("abcdefghijklmnopq", "zzzz", "abcdvwxy").late(2), 400);
        Check.same("two of the version's five, of many",
                line("abcdefghijklmnopq", "zzzz", "abcdexyz").late(2), 0);
        Check.same("unlike ones alone are counted",
                line("abcd", "zzzz", "abcdabcdabcd").late(2), 400);
        Check.same("one of one unlike", line("aaaa", "zzzz", "aaaaaaaaa").late(2), 0);
        Check.same("none of one, cut to none", line("yyyy", "zzzz", "aaaaaaaaa").late(2), 0);
    }

    private static void promise19LateHalfOfFew() {
        Check.same("one of two is half", line("abcd", "zzzz", "abcde").late(2), 0);
        Check.same("none of two is less", line("yyyy", "zzzz", "abcde").late(2), 400);
        Check.same("one of three is half, cut", line("abcd", "zzzz", "abcdef").late(2), 0);
        Check.same("none of three is less", line("yyyy", "zzzz", "abcdef").late(2), 400);
        Check.same("18 of 37 are half, cut", line(LONGEST.substring(0, 21), "zzzz", LONGEST).late(2), 0);
        Check.same("17 of 37 are less", line(LONGEST.substring(0, 20), "zzzz", LONGEST).late(2), 400);
    }

    /** The ancestor's own minutes count, not what it gets of its ancestors. */
    private static void promise19LateChain() {
        Homewatcher x = line("aaaabbbb", "aaaabbbbcccc", "bbbbccccdddd");
        Check.same("first with second", x.shared(0, 1), 5);
        Check.same("second with third", x.shared(1, 2), 5);
        Check.same("first with third", x.shared(0, 2), 1);
        Check.same("second by the first", x.late(1), 0);
        Check.same("third by the second", x.late(2), 50);
    }

    /** The minutes of a version of pupil 1 for task 0 go by task 0, whenever task 1 is due. */
    private static void promise19LateByTask() {
        Homewatcher x = Scene.room(2);
        x.task(0, 1000000, 100, 'h', 1);
        x.pass(130);
        int parent = Scene.handed(x, 1, 0, -1, TEXT);
        x.pass(20);
        Check.same("by the parent", x.late(Scene.handed(x, 1, 0, parent, TEXT)), 30);
        Homewatcher far = Scene.room(1);
        Scene.handed(far, 0, 0, -1, TEXT);
        for (int i = 1; i < 59; i++) {
            far.save(0, 0, i - 1, 0);
        }
        far.pass(101);
        Check.same("by the first of sixty", far.late(Scene.handed(far, 0, 0, 58, TEXT)), 0);
        Check.same("its parent is not in", far.isIn(58), false);
    }

    private static void promise19LateMost() {
        Homewatcher x = at(1000000, due(720, 0));
        int most = Scene.handed(x, 0, 0, -1, TEXT);
        Check.same("as late as can be", x.late(most), 1000720);
        Check.same("handed in at the minute 0", x.late(0), 720);
        Check.same("by a child of one in at 0", x.late(Scene.handed(x, 0, 0, 0, TEXT)), 720);
        Homewatcher slow = at(1000000, due(-720, 999280));
        Check.same("in the due minute of a clock behind", slow.late(Scene.handed(slow, 0, 0, -1, TEXT)), 0);
        Homewatcher slower = at(1000000, due(-720, 999279));
        Check.same("a minute behind it", slower.late(Scene.handed(slower, 0, 0, -1, TEXT)), 1);
    }

    private static void promise19LateRefuses() {
        Check.noSuch("late", 3, HandTest::three, (y, version) -> y.late(version));
        Class<UnsupportedOperationException> due = UnsupportedOperationException.class;
        Check.refuses("late of a withdrawn one", due, HandTest::three, y -> y.late(1));
        Check.refuses("late of one never in", due, HandTest::three, y -> y.late(2));
    }

    private static void promise22Counting() {
        Homewatcher x = Scene.school();
        int a = Scene.save(x, 0, 0, -1, "one");
        int b = Scene.save(x, 0, 0, -1, "two");
        int c = Scene.save(x, 0, 0, -1, "three");
        int other = Scene.save(x, 0, 1, -1, "other");
        Check.fails("none is in", NoSuchElementException.class, () -> x.counting(0, 0));
        x.hand(c);
        Check.same("the one in", x.counting(0, 0), c);
        x.hand(a);
        Check.same("the last handed in, of one minute", x.counting(0, 0), a);
        x.pass(1);
        x.hand(b);
        x.hand(other);
        Check.same("the last handed in", x.counting(0, 0), b);
        Check.same("for another task", x.counting(0, 1), other);
        x.withdraw(b);
        Check.same("the last that is in", x.counting(0, 0), a);
        x.withdraw(a);
        Check.same("the first again", x.counting(0, 0), c);
        Check.fails("of another pupil", NoSuchElementException.class, () -> x.counting(1, 0));
        Check.fails("for another class", NoSuchElementException.class, () -> x.counting(0, 2));
        Check.noSuch("counting, pupil", 2, HandTest::three, (y, pupil) -> y.counting(pupil, 0));
        Check.noSuch("counting, task", 1, HandTest::three, (y, task) -> y.counting(0, task));
        Check.refuses("no pupil ahead of no version", IndexOutOfBoundsException.class, HandTest::three,
                y -> y.counting(2, 0));
    }
}
