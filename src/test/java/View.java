import java.util.function.Supplier;

/**
 * What can be seen of an object: two objects in the same state look the same. It is asked of several
 * objects that are made alike, as an object is good for 512 calls.
 */
final class View {
    private static final int VERSIONS_OF_ONE = 15;
    private static final int PUPILS_OF_ONE = 4;

    private final StringBuilder seen = new StringBuilder();

    private View() { }

    static String of(Supplier<Homewatcher> maker) {
        View view = new View();
        view.text(maker.get());
        view.sums(maker.get());
        for (int first = 0; first < 60; first += VERSIONS_OF_ONE) {
            view.versions(maker.get(), first);
        }
        for (int first = 0; first < 12; first += PUPILS_OF_ONE) {
            view.marks(maker.get(), first);
        }
        view.hits(maker.get());
        return view.seen.toString();
    }

    private void text(Homewatcher x) {
        for (int i = 0; i < 4; i++) {
            int room = i;
            put("clock", () -> x.clock(room));
        }
        for (int i = 0; i <= 80; i++) {
            int place = i;
            if (!put("char", () -> (int) x.charAt(place))) {
                break;
            }
        }
    }

    private void sums(Homewatcher x) {
        int threshold = x.threshold(1);
        x.threshold(threshold);
        seen.append(" threshold ").append(threshold).append(" indexed ").append(x.indexed());
        put("inShare", x::inShare);
        put("meanMark", x::meanMark);
        put("isTrue", x::isTrue);
        for (int i = 0; i < 10; i++) {
            int task = i;
            put("off", () -> x.off(task, 5000));
        }
    }

    private void versions(Homewatcher x, int first) {
        for (int i = first; i < first + VERSIONS_OF_ONE; i++) {
            int version = i;
            if (!put("packed", () -> x.packed(version))) {
                break;
            }
            for (char what : "pshncug".toCharArray()) {
                put("of", () -> x.of(version, what));
            }
            put("isIn", () -> x.isIn(version));
            put("late", () -> x.late(version));
        }
    }

    private void marks(Homewatcher x, int first) {
        for (int i = first; i < first + PUPILS_OF_ONE; i++) {
            for (int k = 0; k < 10; k++) {
                int pupil = i;
                int task = k;
                put("counting", () -> x.counting(pupil, task));
                put("mark", () -> x.mark(pupil, task));
                put("heads", () -> x.heads(pupil, task));
            }
        }
    }

    private void hits(Homewatcher x) {
        int hits = x.hits();
        seen.append(" hits ").append(hits);
        for (int i = 0; i < hits; i++) {
            int hit = i;
            for (char what : "noch".toCharArray()) {
                put("hit", () -> x.hit(hit, what));
            }
        }
        put("next", x::next);
    }

    private boolean put(String what, Supplier<Object> call) {
        seen.append(' ').append(what).append(' ');
        try {
            seen.append(call.get());
            return true;
        } catch (RuntimeException e) {
            seen.append(e.getClass().getSimpleName());
            return false;
        }
    }
}
