import java.util.function.Supplier;

/** What can be seen of an object: two objects in the same state look the same. */
final class View {
    private View() { }

    static String of(Homewatcher x) {
        StringBuilder view = new StringBuilder();
        for (int i = 0; i < 4; i++) {
            int room = i;
            put(view, "clock", () -> x.clock(room));
        }
        for (int i = 0; i <= 80; i++) {
            int place = i;
            if (!put(view, "char", () -> (int) x.charAt(place))) {
                break;
            }
        }
        versions(x, view);
        marks(x, view);
        hits(x, view);
        int threshold = x.threshold(1);
        x.threshold(threshold);
        view.append(" threshold ").append(threshold).append(" indexed ").append(x.indexed());
        put(view, "inShare", x::inShare);
        put(view, "meanMark", x::meanMark);
        return view.append(x.isTrue()).toString();
    }

    private static void versions(Homewatcher x, StringBuilder view) {
        for (int i = 0; i < 60; i++) {
            int version = i;
            if (!put(view, "packed", () -> x.packed(version))) {
                break;
            }
            for (char what : "pshncug".toCharArray()) {
                put(view, "of", () -> x.of(version, what));
            }
            put(view, "isIn", () -> x.isIn(version));
            put(view, "late", () -> x.late(version));
        }
    }

    private static void marks(Homewatcher x, StringBuilder view) {
        for (int i = 0; i < 12; i++) {
            for (int k = 0; k < 10; k++) {
                int pupil = i;
                int task = k;
                put(view, "counting", () -> x.counting(pupil, task));
                put(view, "mark", () -> x.mark(pupil, task));
                put(view, "heads", () -> x.heads(pupil, task));
            }
        }
        for (int k = 0; k < 10; k++) {
            int task = k;
            put(view, "off", () -> x.off(task, 5000));
        }
    }

    private static void hits(Homewatcher x, StringBuilder view) {
        view.append(" hits ").append(x.hits());
        for (int i = 0; i < x.hits(); i++) {
            int hit = i;
            for (char what : "noch".toCharArray()) {
                put(view, "hit", () -> x.hit(hit, what));
            }
        }
        put(view, "next", x::next);
    }

    private static boolean put(StringBuilder view, String what, Supplier<Object> call) {
        view.append(' ').append(what).append(' ');
        try {
            view.append(call.get());
            return true;
        } catch (RuntimeException e) {
            view.append(e.getClass().getSimpleName());
            return false;
        }
    }
}
