import java.util.NoSuchElementException;

/** Promises 12 to 15: versions, their numbers, forks and heads. */
final class VersionTest {
    public static void main(String[] args) {
        promise12Save();
        promise12SaveParents();
        promise12SaveRefuses();
        promise12SaveOrder();
        promise12SaveFull();
        promise13Of();
        promise13OfMost();
        promise14Forks();
        promise15Heads();
        Check.end();
    }

    private static void promise12Save() {
        Homewatcher x = Scene.school();
        x.pass(10);
        Scene.type(x, "abc");
        Check.same("save", x.save(0, 0, -1, 10), 0);
        Check.fails("the text then", NoSuchElementException.class, () -> x.charAt(0));
        Scene.type(x, "abcd");
        Check.same("save a child", x.save(0, 0, 0, 0), 1);
        Check.same("save an empty one", x.save(2, 2, -1, 3), 2);
        Check.same("minute of 0", x.of(0, 's'), 0);
        Check.same("minute of 1", x.of(1, 's'), 10);
        Check.same("minute of 2", x.of(2, 's'), 7);
        Check.same("signs of 0", x.of(0, 'n'), 3);
        Check.same("signs of 1", x.of(1, 'n'), 4);
        Check.same("signs of 2", x.of(2, 'n'), 0);
        Check.same("a child of the same minute", x.save(0, 0, 1, 0), 3);
        Scene.type(x, "z");
        Check.same("the text of 1 stays", x.of(1, 'n'), 4);
        Check.same("the chars of 1 stay", x.byteSum(1), (byte) (97 + 98 + 99 + 100));
        x.reverse();
        x.insert(0, 'y');
        Check.same("the chars of 0 stay", x.shortSum(0), (short) "abc".hashCode());
        Check.same("an empty text stays", x.byteSum(2), (byte) 0);
    }

    /** A version may have any earlier one of both as its parent, whatever became of that one. */
    private static void promise12SaveParents() {
        Homewatcher x = Scene.school();
        int in = Scene.handed(x, 0, 0, -1, "abcd");
        int gone = Scene.handed(x, 0, 0, -1, "efgh");
        x.withdraw(gone);
        Check.same("under one that is in", x.of(x.save(0, 0, in, 0), 'p'), in);
        Check.same("under a withdrawn one", x.of(x.save(0, 0, gone, 0), 'p'), gone);
        Check.same("under a parent", x.of(x.save(0, 0, in, 0), 'p'), in);
        Check.same("under none", x.of(x.save(0, 0, -1, 0), 'p'), -1);
        Check.fails("under itself", IndexOutOfBoundsException.class, () -> x.save(0, 0, 6, 0));
        Check.same("at the minute 0", x.of(0, 's'), 0);
        Check.fails("a minute ahead of 0", IllegalArgumentException.class, () -> x.save(0, 0, -1, 1));
    }

    /** Pupil 0 has version 0 of minute 10 for task 0, pupil 1 version 1 for it; a text is typed. */
    private static Homewatcher begun() {
        Homewatcher x = Scene.school();
        x.pass(10);
        Scene.save(x, 0, 0, -1, "abc");
        Scene.save(x, 1, 0, -1, "abc");
        x.pass(5);
        Scene.type(x, "typed");
        return x;
    }

    private static void promise12SaveRefuses() {
        Check.noSuch("pupil", 3, VersionTest::begun, (y, pupil) -> y.save(pupil, 0, -1, 0));
        Check.noSuch("task", 3, VersionTest::begun, (y, task) -> y.save(0, task, -1, 0));
        for (int parent : new int[] {-2, 2, 3, Integer.MIN_VALUE, Integer.MAX_VALUE}) {
            Check.refuses("parent " + parent, IndexOutOfBoundsException.class, VersionTest::begun,
                    y -> y.save(0, 0, parent, 0));
        }
        Check.range("ago", 0, 15, VersionTest::begun, (y, ago) -> y.save(0, 0, -1, ago));
        Class<UnsupportedOperationException> due = UnsupportedOperationException.class;
        Check.refuses("task of another class", due, VersionTest::begun, y -> y.save(0, 2, -1, 0));
        Check.refuses("task of another class", due, VersionTest::begun, y -> y.save(2, 0, -1, 0));
        Check.refuses("parent of another pupil", due, VersionTest::begun, y -> y.save(0, 0, 1, 0));
        Check.refuses("parent of another task", due, VersionTest::begun, y -> y.save(0, 1, 0, 0));
        Check.refuses("parent saved later", due, VersionTest::begun, y -> y.save(0, 0, 0, 6));
        Check.same("parent of the same minute", begun().save(0, 0, 0, 5), 2);
    }

    private static void promise12SaveOrder() {
        Check.refuses("no version ahead of minutes", IndexOutOfBoundsException.class, VersionTest::begun,
                y -> y.save(0, 2, 7, -1));
        Check.refuses("no pupil ahead of minutes", IndexOutOfBoundsException.class, VersionTest::begun,
                y -> y.save(3, 2, -1, -1));
        Check.refuses("no task ahead of minutes", IndexOutOfBoundsException.class, VersionTest::begun,
                y -> y.save(0, 3, -1, -1));
        Check.refuses("no version ahead of another class", IndexOutOfBoundsException.class, VersionTest::begun,
                y -> y.save(0, 2, 2, 0));
        Check.refuses("no version ahead of full", IndexOutOfBoundsException.class, VersionTest::full,
                y -> y.save(0, 0, 60, 0));
        Check.refuses("no pupil ahead of full", IndexOutOfBoundsException.class, VersionTest::full,
                y -> y.save(3, 0, -1, 0));
        Check.refuses("no task ahead of full", IndexOutOfBoundsException.class, VersionTest::full,
                y -> y.save(0, 3, -1, 0));
        Check.refuses("minutes ahead of another's parent", IllegalArgumentException.class, VersionTest::begun,
                y -> y.save(0, 0, 1, 16));
        Check.refuses("minutes ahead of another class", IllegalArgumentException.class, VersionTest::begun,
                y -> y.save(0, 2, -1, 16));
        Check.refuses("minutes ahead of full", IllegalArgumentException.class, VersionTest::full,
                y -> y.save(0, 0, -1, -1));
        Check.refuses("another class ahead of full", UnsupportedOperationException.class, VersionTest::full,
                y -> y.save(0, 2, -1, 0));
        Check.refuses("another's parent ahead of full", UnsupportedOperationException.class, VersionTest::full,
                y -> y.save(0, 0, 1, 0));
        Check.refuses("another task's parent ahead of full", UnsupportedOperationException.class,
                VersionTest::full, y -> y.save(0, 1, 0, 0));
    }

    private static Homewatcher full() {
        Homewatcher x = Scene.school();
        for (int i = 0; i < 60; i++) {
            x.save(i % 2, 0, -1, 0);
        }
        x.type('a');
        return x;
    }

    private static void promise12SaveFull() {
        Homewatcher x = Scene.school();
        for (int i = 0; i < 60; i++) {
            Check.same("save up to 60", x.save(0, 0, i - 1, 0), i);
        }
        Check.same("heads of a line of 60", x.heads(0, 0), 1);
        Check.refuses("save when full", IllegalStateException.class, VersionTest::full,
                y -> y.save(0, 0, -1, 0));
    }

    private static void promise13Of() {
        Homewatcher x = Scene.school();
        x.pass(30);
        int first = Scene.save(x, 0, 0, -1, "abcdabcde");
        x.pass(2);
        Scene.type(x, "ab");
        x.type(128512);
        int second = x.save(0, 0, first, 1);
        x.pass(3);
        x.hand(second);
        x.points(second, 64);
        String letters = "pshncug";
        int[] firstDue = {-1, 30, -1, 9, 9, 5, 0};
        int[] secondDue = {first, 31, 35, 3, 4, 0, 64};
        for (int i = 0; i < letters.length(); i++) {
            char what = letters.charAt(i);
            Check.same("of first " + what, x.of(first, what), firstDue[i]);
            Check.same("of second " + what, x.of(second, what), secondDue[i]);
        }
        x.withdraw(second);
        Check.same("handed in once", x.of(second, 'h'), 35);
        x.pass(5);
        Check.same("by its first minute", x.of(second, 'h'), 35);
        Homewatcher ahead = new Homewatcher();
        ahead.classroom(60);
        ahead.pupil(0);
        ahead.task(0, 100, 100, 'h', 1);
        ahead.pass(2);
        ahead.hand(ahead.save(0, 0, -1, 1));
        Check.same("handed in at a minute of the time", ahead.of(0, 'h'), 2);
        Check.same("saved at a minute of the time", ahead.of(0, 's'), 1);
        Check.noSuch("of", 2, VersionTest::begun, (y, version) -> y.of(version, 'p'));
        for (char what : "PSHNCUGoabqz \0".toCharArray()) {
            Check.refuses("of " + what, IllegalArgumentException.class, VersionTest::begun, y -> y.of(1, what));
            Check.refuses("of none " + what, IndexOutOfBoundsException.class, VersionTest::begun,
                    y -> y.of(2, what));
        }
    }

    private static void promise13OfMost() {
        Homewatcher x = Scene.room(1);
        for (int i = 0; i < 40; i++) {
            x.type(128512 + 2 * i);
        }
        int most = x.save(0, 0, -1, 0);
        int three = Scene.save(x, 0, 0, -1, "abc");
        int four = Scene.save(x, 0, 0, -1, "abcd");
        int alike = Scene.save(x, 0, 0, -1, "aaaaa");
        Check.same("40 signs", x.of(most, 'n'), 40);
        Check.same("80 chars", x.of(most, 'c'), 80);
        Check.same("37 unlike shingles", x.of(most, 'u'), 37);
        Check.same("three signs have none", x.of(three, 'u'), 0);
        Check.same("four signs have one", x.of(four, 'u'), 1);
        Check.same("two alike are one", x.of(alike, 'u'), 1);
    }

    /** Of pupil 0: roots 0 and 1 for task 0, 2 and 3 and 4 under 0, and root 5 for task 1; of pupil 1 root 6. */
    private static Homewatcher tree() {
        Homewatcher x = Scene.school();
        x.save(0, 0, -1, 0);
        x.save(0, 0, -1, 0);
        x.save(0, 0, 0, 0);
        x.save(0, 0, 0, 0);
        x.save(0, 0, 0, 0);
        x.save(0, 1, -1, 0);
        x.save(1, 0, -1, 0);
        x.save(0, 0, 2, 0);
        return x;
    }

    private static void promise14Forks() {
        int[] due = {1, 1, 2, 2, 2, 0, 0, 0};
        Homewatcher x = tree();
        for (int i = 0; i < due.length; i++) {
            Check.same("forks of " + i, x.forks(i), due[i]);
        }
        Homewatcher most = Scene.room(1);
        Check.same("the first has none", most.forks(most.save(0, 0, -1, 0)), 0);
        for (int i = 1; i < 60; i++) {
            most.save(0, 0, -1, 0);
        }
        Check.same("as many as there can be", most.forks(59), 59);
        Check.same("as many heads", most.heads(0, 0), 60);
        Check.noSuch("forks", 8, VersionTest::tree, (y, version) -> y.forks(version));
    }

    private static void promise15Heads() {
        Homewatcher x = tree();
        Check.same("heads: 1, 3, 4, 7", x.heads(0, 0), 4);
        Check.same("heads for another task", x.heads(0, 1), 1);
        Check.same("heads of another pupil", x.heads(1, 0), 1);
        Check.same("heads of none", x.heads(1, 1), 0);
        Homewatcher one = Scene.school();
        one.save(0, 0, -1, 0);
        Check.same("the first version is a head", one.heads(0, 0), 1);
        one.save(0, 0, 0, 0);
        Check.same("a parent is none", one.heads(0, 0), 1);
        Check.same("heads for another class", x.heads(0, 2), 0);
        x.save(0, 0, 7, 0);
        Check.same("a child takes the place", x.heads(0, 0), 4);
        x.hand(3);
        x.withdraw(3);
        Check.same("handing in changes nothing", x.heads(0, 0), 4);
        Check.noSuch("heads, pupil", 3, VersionTest::tree, (y, pupil) -> y.heads(pupil, 0));
        Check.noSuch("heads, task", 3, VersionTest::tree, (y, task) -> y.heads(0, task));
    }
}
