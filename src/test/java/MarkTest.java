/** Promises 20, 21, 23, 24 and 38: rules, points, marks, frozen ones and their mean. */
final class MarkTest {
    private static final String TEXT = "abcdefgh";

    public static void main(String[] args) {
        promise20Off();
        promise20OffRefuses();
        promise21Points();
        promise23Mark();
        promise23MarkLate();
        promise23MarkAtTheEnds();
        promise23MarkLateMost();
        promise23MarkLost();
        promise23MarkLostByTask();
        promise23MarkRefuses();
        promise24IsFrozen();
        promise38MeanMark();
        promise38MeanMarkRefuses();
        Check.end();
    }

    private static void off(char rule, int amount, int[] minutes, int[] due) {
        Homewatcher x = new Homewatcher();
        x.classroom(0);
        x.task(0, 0, 100, rule, amount);
        for (int i = 0; i < minutes.length; i++) {
            Check.same("off by " + rule + amount + " for " + minutes[i], x.off(0, minutes[i]), due[i]);
        }
    }

    private static void promise20Off() {
        off('h', 5, new int[] {0, 1, 59, 60, 61, 120, 121, 1000000}, new int[] {0, 5, 5, 5, 10, 10, 15, 83335});
        off('h', 0, new int[] {0, 1, 1000}, new int[] {0, 0, 0});
        off('d', 7, new int[] {0, 1, 1440, 1441, 2880, 2881, 1000000}, new int[] {0, 7, 7, 14, 14, 21, 4865});
        off('g', 30, new int[] {0, 1, 30, 31, 1000000}, new int[] {0, 0, 0, 10, 10});
        off('g', 0, new int[] {0, 1}, new int[] {0, 10});
        off('g', 100, new int[] {100, 101}, new int[] {0, 10});
        off('d', 0, new int[] {1, 1000000}, new int[] {0, 0});
        off('s', 0, new int[] {1, 1000000}, new int[] {0, 0});
        off('h', 100, new int[] {1, 60, 61, 1000000}, new int[] {100, 100, 200, 1666700});
        off('s', 1, new int[] {60, 179, 180, 239, 240, 299, 300, 359}, new int[] {2, 4, 8, 8, 16, 16, 32, 32});
        off('s', 3, new int[] {0, 1, 59, 60, 119, 120, 359, 360, 419, 420, 1920, 1000000},
                new int[] {0, 3, 3, 6, 6, 12, 96, 192, 192, 192, 192, 192});
        off('s', 100, new int[] {1, 1000000}, new int[] {100, 6400});
    }

    private static void promise20OffRefuses() {
        Check.noSuch("off", 1, () -> Scene.room(1), (y, task) -> y.off(task, 0));
        Check.range("off", 0, 1000000, () -> Scene.room(1), (y, late) -> y.off(0, late));
        Check.refuses("no task ahead of minutes", IndexOutOfBoundsException.class, () -> Scene.room(1),
                y -> y.off(1, -1));
    }

    private static void promise21Points() {
        Homewatcher x = Scene.room(1);
        int a = Scene.save(x, 0, 0, -1, TEXT);
        int b = Scene.save(x, 0, 0, a, TEXT);
        Check.same("at first", x.points(a, 40), 0);
        Check.same("those before", x.points(a, 100), 40);
        Check.same("the later ones count", x.of(a, 'g'), 100);
        Check.same("of another version", x.of(b, 'g'), 0);
        Check.same("those before", x.points(a, 0), 100);
        Check.range("points", 0, 100, () -> handedIn(1), (y, points) -> y.points(0, points));
        Check.noSuch("points", 1, () -> handedIn(1), (y, version) -> y.points(version, 5));
        Check.refuses("no version ahead of points", IndexOutOfBoundsException.class, () -> handedIn(1),
                y -> y.points(1, 101));
    }

    /** Each pupil has handed in the same text, worth 80. */
    private static Homewatcher handedIn(int pupils) {
        Homewatcher x = Scene.room(pupils);
        for (int i = 0; i < pupils; i++) {
            x.points(Scene.handed(x, i, 0, -1, TEXT), 80);
        }
        return x;
    }

    private static void promise23Mark() {
        Homewatcher x = Scene.school();
        Check.same("without versions", x.mark(0, 1), 0);
        int a = Scene.save(x, 0, 1, -1, TEXT);
        x.points(a, 99);
        Check.same("with none in", x.mark(0, 1), 0);
        x.hand(a);
        Check.same("40 times 99 by 100, cut", x.mark(0, 1), 39);
        x.points(a, 2);
        Check.same("40 times 2 by 100, cut", x.mark(0, 1), 0);
        x.points(a, 100);
        Check.same("full", x.mark(0, 1), 40);
        int b = Scene.handed(x, 0, 1, a, "other text");
        Check.same("by the version that counts", x.mark(0, 1), 0);
        x.points(b, 50);
        Check.same("by its points", x.mark(0, 1), 20);
        x.withdraw(b);
        Check.same("by the one before", x.mark(0, 1), 40);
        x.withdraw(a);
        Check.same("by none", x.mark(0, 1), 0);
        Check.same("for another class", x.mark(0, 2), 0);
    }

    private static void promise23MarkLate() {
        Homewatcher x = Scene.room(1);
        int a = Scene.save(x, 0, 0, -1, TEXT);
        x.points(a, 75);
        x.pass(161);
        x.hand(a);
        Check.same("two hours begun", x.mark(0, 0), 55);
        int b = Scene.save(x, 0, 0, a, TEXT);
        x.points(b, 100);
        x.pass(1000);
        x.hand(b);
        Check.same("as late as its ancestor", x.mark(0, 0), 80);
        int c = Scene.handed(x, 0, 0, -1, TEXT);
        x.points(c, 100);
        Check.same("at least 0", x.mark(0, 0), 0);
        Homewatcher clock = Scene.school();
        clock.pass(69);
        int d = Scene.save(clock, 2, 2, -1, TEXT);
        clock.points(d, 100);
        clock.pass(2);
        clock.hand(d);
        Check.same("by the clock of the class", clock.mark(2, 2), 93);
    }

    private static int mark(int full, int points, int minutesLate) {
        Homewatcher x = new Homewatcher();
        x.classroom(0);
        x.pupil(0);
        x.task(0, 0, full, 'h', 10);
        x.points(x.save(0, 0, -1, 0), points);
        if (minutesLate > 0) {
            x.pass(minutesLate);
        }
        x.hand(0);
        return x.mark(0, 0);
    }

    private static void promise23MarkAtTheEnds() {
        Check.same("less than what is taken off", mark(100, 9, 1), 0);
        Check.same("as much as is taken off", mark(100, 10, 1), 0);
        Check.same("one more", mark(100, 11, 1), 1);
        Check.same("much less", mark(100, 100, 100000), 0);
        Check.same("full 1, not all points", mark(1, 99, 0), 0);
        Check.same("full 1, all points", mark(1, 100, 0), 1);
        Check.same("99 by 100", mark(3, 33, 0), 0);
        Check.same("102 by 100", mark(3, 34, 0), 1);
        Check.same("one point", mark(100, 1, 0), 1);
        Check.same("no point", mark(100, 0, 0), 0);
        Check.same("cut ahead of what is taken off", mark(25, 43, 1), 0);
        Check.same("cut, and 10 off", mark(25, 99, 1), 14);
    }

    /** A version can be later than the minutes that off takes. */
    private static void promise23MarkLateMost() {
        int[] amounts = {100, 0, 100, 1};
        int[] due = {0, 100, 90, 36};
        for (int i = 0; i < due.length; i++) {
            Homewatcher x = new Homewatcher();
            x.classroom(720);
            x.pupil(0);
            x.task(0, 0, 100, "hdgs".charAt(i), amounts[i]);
            for (int k = 0; k < 10; k++) {
                x.pass(100000);
            }
            x.points(Scene.handed(x, 0, 0, -1, TEXT), 100);
            Check.same("late by 1000720 by " + "hdgs".charAt(i), x.mark(0, 0), due[i]);
        }
    }

    /** Each of three pupils has 80 for each of two tasks; a hit is of 1 for task 0 and of 2 for task 1. */
    private static Homewatcher crossed() {
        Homewatcher x = Scene.room(3);
        x.task(0, 100, 100, 'h', 10);
        for (int i = 0; i < 6; i++) {
            String text = i == 2 || i == 5 ? TEXT : "zyxwvuts".substring(i, i + 3);
            x.points(Scene.handed(x, i / 2, i % 2, -1, text), 80);
        }
        Check.same("one hit", x.hits(), 1);
        return x;
    }

    private static void promise23MarkLostByTask() {
        for (int who = 0; who < 4; who++) {
            Homewatcher x = crossed();
            x.hear(0, who);
            for (int i = 0; i < 6; i++) {
                boolean lost = i == 5 && (who & 1) != 0 || i == 2 && (who & 2) != 0;
                Check.same("pupil " + i / 2 + ", task " + i % 2 + ", who " + who, x.mark(i / 2, i % 2), lost ? 0 : 80);
            }
        }
    }

    private static void promise23MarkLost() {
        for (int who = 0; who < 4; who++) {
            Homewatcher x = handedIn(2);
            Check.same("one hit", x.hits(), 1);
            x.hear(0, who);
            Check.same("the new one's, who " + who, x.mark(1, 0), (who & 1) != 0 ? 0 : 80);
            Check.same("the other one's, who " + who, x.mark(0, 0), (who & 2) != 0 ? 0 : 80);
        }
        Homewatcher x = handedIn(2);
        x.task(0, 100, 100, 'h', 10);
        x.hear(0, 1);
        int again = Scene.handed(x, 1, 0, -1, "another text");
        x.points(again, 100);
        Check.same("lost for good", x.mark(1, 0), 0);
        int task = Scene.handed(x, 1, 1, -1, "for another task");
        x.points(task, 100);
        Check.same("not for another task", x.mark(1, 1), 100);
    }

    private static void promise23MarkRefuses() {
        Check.noSuch("mark, pupil", 2, () -> handedIn(2), (y, pupil) -> y.mark(pupil, 0));
        Check.noSuch("mark, task", 1, () -> handedIn(2), (y, task) -> y.mark(0, task));
        Class<UnsupportedOperationException> due = UnsupportedOperationException.class;
        Check.refuses("frozen mark", due, () -> handedIn(2), y -> y.mark(0, 0));
        Check.refuses("frozen mark", due, () -> handedIn(2), y -> y.mark(1, 0));
        for (int i = 0; i < 6; i++) {
            int pupil = i / 2;
            int task = i % 2;
            if (i == 2 || i == 5) {
                Check.refuses("frozen by the hit", due, MarkTest::crossed, y -> y.mark(pupil, task));
            } else {
                Check.same("not frozen by the hit", crossed().mark(pupil, task), 80);
            }
            Check.same("pupil " + pupil + ", task " + task, crossed().isFrozen(pupil, task), i == 2 || i == 5);
        }
        Homewatcher x = handedIn(3);
        x.hear(0, 3);
        Check.fails("lost, and frozen by another hit", due, () -> x.mark(0, 0));
        x.hear(1, 0);
        Check.same("lost, all of its hits are heard", x.mark(0, 0), 0);
        Check.fails("frozen by the last hit", due, () -> x.mark(1, 0));
    }

    private static void promise24IsFrozen() {
        Homewatcher x = Scene.school();
        int a = Scene.handed(x, 0, 0, -1, TEXT);
        Check.same("no hit", x.isFrozen(0, 0), false);
        int b = Scene.handed(x, 2, 2, -1, TEXT);
        Check.same("the other one", x.isFrozen(0, 0), true);
        Check.same("the new one", x.isFrozen(2, 2), true);
        Check.same("another task", x.isFrozen(0, 1), false);
        Check.same("the other one's task", x.isFrozen(0, 2), false);
        Check.same("another pupil", x.isFrozen(1, 0), false);
        Scene.handed(x, 1, 1, -1, TEXT);
        Check.same("both more hits", x.hits(), 3);
        x.hear(0, 0);
        Check.same("by another hit still", x.isFrozen(0, 0), true);
        x.hear(1, 3);
        Check.same("all heard", x.isFrozen(0, 0), false);
        Check.same("one is open", x.isFrozen(2, 2), true);
        x.withdraw(a);
        Check.same("heard and withdrawn", x.isFrozen(0, 0), false);
        Homewatcher gone = handedIn(2);
        gone.withdraw(0);
        gone.withdraw(1);
        Check.same("withdrawing does not thaw", gone.isFrozen(0, 0), true);
        Check.same("withdrawing does not thaw", gone.isFrozen(1, 0), true);
        Check.same("b is in", x.isIn(b), true);
        Check.noSuch("isFrozen, pupil", 2, () -> handedIn(2), (y, pupil) -> y.isFrozen(pupil, 0));
        Check.noSuch("isFrozen, task", 1, () -> handedIn(2), (y, task) -> y.isFrozen(0, task));
    }

    private static void promise38MeanMark() {
        Homewatcher x = Scene.school();
        Check.same("all are 0", x.meanMark(), 0.0);
        x.points(Scene.handed(x, 0, 0, -1, TEXT), 77);
        Check.same("one of five: two pupils, two tasks, and one of another class", x.meanMark(), 77.0 / 5.0);
        x.points(Scene.handed(x, 1, 1, -1, "other text"), 50);
        Check.same("two of five", x.meanMark(), 97.0 / 5.0);
        x.points(Scene.handed(x, 2, 2, -1, TEXT), 100);
        Check.same("frozen ones left out", x.meanMark(), 20.0 / 3.0);
        x.hear(0, 1);
        Check.same("a lost one is 0", x.meanMark(), 97.0 / 5.0);
    }

    private static void promise38MeanMarkRefuses() {
        Class<ArithmeticException> due = ArithmeticException.class;
        Check.refuses("a new object", due, Homewatcher::new, Homewatcher::meanMark);
        Check.refuses("no pupil", due, () -> Scene.room(0), Homewatcher::meanMark);
        Check.refuses("all frozen", due, () -> handedIn(2), Homewatcher::meanMark);
        Homewatcher x = handedIn(2);
        x.hear(0, 1);
        Check.same("none frozen", x.meanMark(), 40.0);
        Check.same("two of six frozen", crossed().meanMark(), 80.0);
        Check.refuses("no task", due, MarkTest::withoutTask, Homewatcher::meanMark);
        Check.refuses("no task of the class", due, MarkTest::apart, Homewatcher::meanMark);
    }

    private static Homewatcher withoutTask() {
        Homewatcher x = new Homewatcher();
        x.classroom(0);
        x.pupil(0);
        return x;
    }

    private static Homewatcher apart() {
        Homewatcher x = new Homewatcher();
        x.classroom(0);
        x.classroom(0);
        x.pupil(0);
        x.task(1, 0, 1, 'h', 0);
        return x;
    }
}
