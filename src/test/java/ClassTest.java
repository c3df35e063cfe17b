/** Promises 1 to 6: a new object, classes, pupils, tasks and the time. */
final class ClassTest {
    public static void main(String[] args) {
        promise1NewObject();
        promise2Classroom();
        promise3Pupil();
        promise4Task();
        promise4TaskRefuses();
        promise5Pass();
        promise6Clock();
        Check.end();
    }

    private static void promise1NewObject() {
        Homewatcher x = new Homewatcher();
        Check.fails("clock of a new object", IndexOutOfBoundsException.class, () -> x.clock(0));
        Check.same("hits", x.hits(), 0);
        Check.same("indexed", x.indexed(), 0);
        Check.same("wipe", x.wipe(), 0);
        Check.same("threshold", x.threshold(5), 3);
        Check.same("isTrue", x.isTrue(), true);
        Check.same("first class", x.classroom(0), 0);
        Check.same("minute", x.clock(0), 0);
        Check.same("time behind a minute", x.pass(1), 1);
        Check.same("another object", new Homewatcher().pass(2), 2);
    }

    private static void promise2Classroom() {
        Homewatcher x = new Homewatcher();
        for (int i = 0; i < 4; i++) {
            Check.same("classroom", x.classroom(i * 10), i);
        }
        Check.range("classroom", -720, 720, Homewatcher::new, (y, offset) -> y.classroom(offset));
        Check.refuses("classroom when full", IllegalStateException.class, ClassTest::full, y -> y.classroom(0));
        Check.refuses("bad classroom when full", IllegalArgumentException.class, ClassTest::full,
                y -> y.classroom(721));
        Check.same("class behind a refusal", afterBadClass().classroom(5), 1);
    }

    private static Homewatcher afterBadClass() {
        Homewatcher x = new Homewatcher();
        x.classroom(0);
        Check.fails("classroom(-721)", IllegalArgumentException.class, () -> x.classroom(-721));
        return x;
    }

    /** Has as many classes, pupils and tasks as there can be. */
    private static Homewatcher full() {
        Homewatcher x = new Homewatcher();
        for (int i = 0; i < 4; i++) {
            x.classroom(i);
        }
        for (int i = 0; i < 12; i++) {
            x.pupil(i % 4);
        }
        for (int i = 0; i < 10; i++) {
            x.task(i % 4, i, 10, 'h', 1);
        }
        return x;
    }

    private static void promise3Pupil() {
        Homewatcher x = new Homewatcher();
        x.classroom(0);
        x.classroom(1);
        for (int i = 0; i < 12; i++) {
            Check.same("pupil", x.pupil(i % 2), i);
        }
        Check.noSuch("pupil", 2, () -> twoClasses(), (y, room) -> y.pupil(room));
        Check.refuses("pupil when full", IllegalStateException.class, ClassTest::full, y -> y.pupil(3));
        Check.refuses("pupil of no class when full", IndexOutOfBoundsException.class, ClassTest::full,
                y -> y.pupil(4));
    }

    private static Homewatcher twoClasses() {
        Homewatcher x = new Homewatcher();
        x.classroom(0);
        x.classroom(-30);
        return x;
    }

    private static void promise4Task() {
        Homewatcher x = twoClasses();
        for (int i = 0; i < 10; i++) {
            Check.same("task", x.task(i % 2, i, i + 1, "hdgs".charAt(i % 4), i), i);
        }
        Check.same("amount of task 4", x.off(4, 60), 4);
        Check.same("rule of task 5", x.off(5, 1440), 5);
        Check.same("rule of task 6", x.off(6, 7), 10);
        Check.same("rule of task 7", x.off(7, 60), 14);
    }

    private static void promise4TaskRefuses() {
        Check.noSuch("task", 2, ClassTest::twoClasses, (y, room) -> y.task(room, 0, 1, 'h', 0));
        Check.range("due", 0, 1000000, ClassTest::twoClasses, (y, due) -> y.task(0, due, 1, 'h', 0));
        Check.range("full", 1, 100, ClassTest::twoClasses, (y, full) -> y.task(0, 0, full, 'h', 0));
        Check.range("amount", 0, 100, ClassTest::twoClasses, (y, amount) -> y.task(0, 0, 1, 'h', amount));
        for (char rule : "HDGSaxi \0".toCharArray()) {
            Check.refuses("rule " + rule, IllegalArgumentException.class, ClassTest::twoClasses,
                    y -> y.task(1, 0, 1, rule, 0));
        }
        Check.refuses("no class ahead of bad due", IndexOutOfBoundsException.class, ClassTest::twoClasses,
                y -> y.task(2, -1, 0, 'h', 101));
        Check.refuses("no class when full", IndexOutOfBoundsException.class, ClassTest::full,
                y -> y.task(4, 0, 1, 'h', 0));
        Check.refuses("no class ahead of bad rule", IndexOutOfBoundsException.class, ClassTest::full,
                y -> y.task(4, 0, 1, 'x', 0));
        Check.refuses("bad rule ahead of full", IllegalArgumentException.class, ClassTest::full,
                y -> y.task(0, 0, 1, 'x', 0));
        Check.refuses("bad due ahead of full", IllegalArgumentException.class, ClassTest::full,
                y -> y.task(0, -1, 1, 'h', 0));
        Check.refuses("task when full", IllegalStateException.class, ClassTest::full,
                y -> y.task(3, 0, 1, 'h', 0));
    }

    private static void promise5Pass() {
        Homewatcher x = twoClasses();
        Check.same("pass", x.pass(5), 5);
        Check.same("pass again", x.pass(7), 12);
        Check.range("pass", 1, 100000, ClassTest::twoClasses, (y, minutes) -> y.pass(minutes));
        Homewatcher last = lastMinute();
        Check.same("clock at the end", last.clock(0), 1000000);
        Check.refuses("pass behind the end", IllegalStateException.class, ClassTest::lastMinute, y -> y.pass(1));
        Check.refuses("bad pass behind the end", IllegalArgumentException.class, ClassTest::lastMinute,
                y -> y.pass(100001));
        Check.refuses("no minutes at the end", IllegalArgumentException.class, ClassTest::lastMinute,
                y -> y.pass(0));
    }

    private static Homewatcher lastMinute() {
        Homewatcher x = twoClasses();
        for (int i = 0; i < 9; i++) {
            x.pass(100000);
        }
        x.pass(99999);
        Check.fails("pass too far", IllegalStateException.class, () -> x.pass(2));
        Check.same("pass to the end", x.pass(1), 1000000);
        return x;
    }

    private static void promise6Clock() {
        Homewatcher x = new Homewatcher();
        x.classroom(-720);
        x.classroom(720);
        Check.same("clock before 0", x.clock(0), -720);
        Check.same("clock ahead", x.clock(1), 720);
        x.pass(1000);
        Check.same("clock behind minutes", x.clock(0), 280);
        Check.same("the other clock", x.clock(1), 1720);
        for (int i = 0; i < 9; i++) {
            x.pass(100000);
        }
        x.pass(99000);
        Check.same("clock at the end", x.clock(0), 1000000 - 720);
        Check.same("clock behind the end", x.clock(1), 1000000 + 720);
        Check.noSuch("clock", 2, ClassTest::twoClasses, (y, room) -> y.clock(room));
    }
}
