import java.util.function.Consumer;
import java.util.function.Supplier;

/** Counts the answers of a test that are not as due. */
final class Check {
    private static int wrong = 0;
    private static int made = 0;

    private Check() { }

    static void same(String what, Object got, Object due) {
        made++;
        if (!got.equals(due)) {
            wrong++;
            System.out.println(what + " answered " + got + ", due is " + due);
        }
    }

    static void fails(String what, Class<? extends RuntimeException> due, Runnable call) {
        made++;
        String got = "nothing";
        try {
            call.run();
        } catch (RuntimeException e) {
            got = e.getClass().getSimpleName();
        }
        if (!got.equals(due.getSimpleName())) {
            wrong++;
            System.out.println(what + " threw " + got + ", due is " + due.getSimpleName());
        }
    }

    /** The call throws, and an object that threw looks like one that was never called so. */
    static void refuses(String what, Class<? extends RuntimeException> due,
            Supplier<Homewatcher> maker, Consumer<Homewatcher> call) {
        Homewatcher called = maker.get();
        fails(what, due, () -> call.accept(called));
        same(what + ", the object then", View.of(() -> afterCall(maker, call)), View.of(maker));
    }

    private static Homewatcher afterCall(Supplier<Homewatcher> maker, Consumer<Homewatcher> call) {
        Homewatcher called = maker.get();
        try {
            call.accept(called);
        } catch (RuntimeException e) {
            return called;
        }
        return called;
    }

    /** The limits of the numbers that are fine: one beyond either of them is refused. */
    static void range(String what, int least, int most, Supplier<Homewatcher> maker, Call call) {
        Class<IllegalArgumentException> due = IllegalArgumentException.class;
        call.on(maker.get(), least);
        call.on(maker.get(), most);
        made += 2;
        for (int bad : new int[] {least - 1, most + 1, Integer.MIN_VALUE, Integer.MAX_VALUE}) {
            refuses(what + " with " + bad, due, maker, x -> call.on(x, bad));
        }
    }

    /** No number from count on and none below zero names anything. */
    static void noSuch(String what, int count, Supplier<Homewatcher> maker, Call call) {
        Class<IndexOutOfBoundsException> due = IndexOutOfBoundsException.class;
        for (int bad : new int[] {-1, -2, count, count + 1, Integer.MIN_VALUE, Integer.MAX_VALUE}) {
            refuses(what + " with " + bad, due, maker, x -> call.on(x, bad));
        }
    }

    static void end() {
        System.out.println(wrong == 0 ? made + " checks hold" : wrong + " of " + made + " checks do not hold");
        if (wrong != 0) {
            System.exit(1);
        }
    }

    interface Call {
        void on(Homewatcher x, int number);
    }
}
