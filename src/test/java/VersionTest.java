import java.util.NoSuchElementException;

/** Promises 12 to 15: versions, their numbers, forks and heads. */
final class VersionTest {
    public static void main(String[] args) {
        promise12Save();
        promise12SaveRefuses();
        promise12SaveOrder();
        promise12SaveFull();
        promise13Of();
        promise14Forks();
        promise15Heads();
        Check.end();
    }

    private static void promise12Save() {
        Homewatcher x = Scene.school();
        x.pass(10);
        Scene.type(x, "abc");
        Check.same("save", x.save(0, 0, -1, 10), 0);
        Check.fails("the text then", NoSuchElementException.class, () -> x.charAt(0));
        Scene.type(x, "abcd");
        Check.same("save a child", x.save(0, 0, 0, 0), 1);
        Check.same("save an empty one", x.save(2, 2, -1, 3), 2);
        Check.same("minute of 0", x.of(0, 's'), 0);
        Check.same("minute of 1", x.of(1, 's'), 10);
        Check.same("minute of 2", x.of(2, 's'), 7);
        Check.same("signs of 0", x.of(0, 'n'), 3);
        Check.same("signs of 1", x.of(1, 'n'), 4);
        Check.same("signs of 2", x.of(2, 'n'), 0);
        Check.same("a child of the same minute", x.save(0, 0, 1, 0), 3);
        Scene.type(x, "z");
        Check.same("the text of 1 stays", x.of(1, 'n'), 4);
    }

    /** Pupil 0 has version 0 of minute 10 for task 0, pupil 1 version 1 for it; a text is typed. */
    private static Homewatcher begun() {
        Homewatcher x = Scene.school();
        x.pass(10);
        Scene.save(x, 0, 0, -1, "abc");
        Scene.save(x, 1, 0, -1, "abc");
        x.pass(5);
        Scene.type(x, "typed");
        return x;
    }

    private static void promise12SaveRefuses() {
        Check.noSuch("pupil", 3, VersionTest::begun, (y, pupil) -> y.save(pupil, 0, -1, 0));
        Check.noSuch("task", 3, VersionTest::begun, (y, task) -> y.save(0, task, -1, 0));
        for (int parent : new int[] {-2, 2, 3, Integer.MIN_VALUE, Integer.MAX_VALUE}) {
            Check.refuses("parent " + parent, IndexOutOfBoundsException.class, VersionTest::begun,
                    y -> y.save(0, 0, parent, 0));
        }
        Check.range("ago", 0, 15, VersionTest::begun, (y, ago) -> y.save(0, 0, -1, ago));
        Class<UnsupportedOperationException> due = UnsupportedOperationException.class;
        Check.refuses("task of another class", due, VersionTest::begun, y -> y.save(0, 2, -1, 0));
        Check.refuses("task of another class", due, VersionTest::begun, y -> y.save(2, 0, -1, 0));
        Check.refuses("parent of another pupil", due, VersionTest::begun, y -> y.save(0, 0, 1, 0));
        Check.refuses("parent of another task", due, VersionTest::begun, y -> y.save(0, 1, 0, 0));
        Check.refuses("parent saved later", due, VersionTest::begun, y -> y.save(0, 0, 0, 6));
        Check.same("parent of the same minute", begun().save(0, 0, 0, 5), 2);
    }

    private static void promise12SaveOrder() {
        Check.refuses("no version ahead of minutes", IndexOutOfBoundsException.class, VersionTest::begun,
                y -> y.save(0, 2, 7, -1));
        Check.refuses("no pupil ahead of minutes", IndexOutOfBoundsException.class, VersionTest::begun,
                y -> y.save(3, 2, -1, -1));
        Check.refuses("minutes ahead of another class", IllegalArgumentException.class, VersionTest::begun,
                y -> y.save(0, 2, -1, 16));
        Check.refuses("minutes ahead of full", IllegalArgumentException.class, VersionTest::full,
                y -> y.save(0, 0, -1, -1));
        Check.refuses("another class ahead of full", UnsupportedOperationException.class, VersionTest::full,
                y -> y.save(0, 2, -1, 0));
    }

    private static Homewatcher full() {
        Homewatcher x = Scene.school();
        for (int i = 0; i < 60; i++) {
            x.save(i % 2, 0, -1, 0);
        }
        x.type('a');
        return x;
    }

    private static void promise12SaveFull() {
        Homewatcher x = Scene.school();
        for (int i = 0; i < 60; i++) {
            Check.same("save up to 60", x.save(0, 0, i - 1, 0), i);
        }
        Check.same("heads of a line of 60", x.heads(0, 0), 1);
        Check.refuses("save when full", IllegalStateException.class, VersionTest::full,
                y -> y.save(0, 0, -1, 0));
    }

    private static void promise13Of() {
        Homewatcher x = Scene.school();
        x.pass(30);
        int first = Scene.save(x, 0, 0, -1, "abcdabcde");
        x.pass(2);
        Scene.type(x, "ab");
        x.type(128512);
        int second = x.save(0, 0, first, 1);
        x.pass(3);
        x.hand(second);
        x.points(second, 64);
        String letters = "pshncug";
        int[] firstDue = {-1, 30, -1, 9, 9, 5, 0};
        int[] secondDue = {first, 31, 35, 3, 4, 0, 64};
        for (int i = 0; i < letters.length(); i++) {
            char what = letters.charAt(i);
            Check.same("of first " + what, x.of(first, what), firstDue[i]);
            Check.same("of second " + what, x.of(second, what), secondDue[i]);
        }
        x.withdraw(second);
        Check.same("handed in once", x.of(second, 'h'), 35);
        Check.noSuch("of", 2, VersionTest::begun, (y, version) -> y.of(version, 'p'));
        for (char what : "PSHNCUGoabqz \0".toCharArray()) {
            Check.refuses("of " + what, IllegalArgumentException.class, VersionTest::begun, y -> y.of(1, what));
            Check.refuses("of none " + what, IndexOutOfBoundsException.class, VersionTest::begun,
                    y -> y.of(2, what));
        }
    }

    /** Of pupil 0: roots 0 and 1 for task 0, 2 and 3 and 4 under 0, and root 5 for task 1; of pupil 1 root 6. */
    private static Homewatcher tree() {
        Homewatcher x = Scene.school();
        x.save(0, 0, -1, 0);
        x.save(0, 0, -1, 0);
        x.save(0, 0, 0, 0);
        x.save(0, 0, 0, 0);
        x.save(0, 0, 0, 0);
        x.save(0, 1, -1, 0);
        x.save(1, 0, -1, 0);
        x.save(0, 0, 2, 0);
        return x;
    }

    private static void promise14Forks() {
        int[] due = {1, 1, 2, 2, 2, 0, 0, 0};
        Homewatcher x = tree();
        for (int i = 0; i < due.length; i++) {
            Check.same("forks of " + i, x.forks(i), due[i]);
        }
        Check.noSuch("forks", 8, VersionTest::tree, (y, version) -> y.forks(version));
    }

    private static void promise15Heads() {
        Homewatcher x = tree();
        Check.same("heads: 1, 3, 4, 7", x.heads(0, 0), 4);
        Check.same("heads for another task", x.heads(0, 1), 1);
        Check.same("heads of another pupil", x.heads(1, 0), 1);
        Check.same("heads of none", x.heads(1, 1), 0);
        Homewatcher one = Scene.school();
        one.save(0, 0, -1, 0);
        Check.same("the first version is a head", one.heads(0, 0), 1);
        one.save(0, 0, 0, 0);
        Check.same("a parent is none", one.heads(0, 0), 1);
        Check.same("heads for another class", x.heads(0, 2), 0);
        x.save(0, 0, 7, 0);
        Check.same("a child takes the place", x.heads(0, 0), 4);
        x.hand(3);
        x.withdraw(3);
        Check.same("handing in changes nothing", x.heads(0, 0), 4);
        Check.noSuch("heads, pupil", 3, VersionTest::tree, (y, pupil) -> y.heads(pupil, 0));
        Check.noSuch("heads, task", 3, VersionTest::tree, (y, task) -> y.heads(0, task));
    }
}
