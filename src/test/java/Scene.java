/** Short ways to objects that a test needs. */
final class Scene {
    private Scene() { }

    /** Types a text; each code point is a sign. */
    static void type(Homewatcher x, String text) {
        for (int code : text.codePoints().toArray()) {
            x.type(code);
        }
    }

    static int save(Homewatcher x, int pupil, int task, int parent, String text) {
        type(x, text);
        return x.save(pupil, task, parent, 0);
    }

    static int handed(Homewatcher x, int pupil, int task, int parent, String text) {
        int version = save(x, pupil, task, parent, text);
        x.hand(version);
        return version;
    }

    /** A class without offset, some pupils, and task 0: due at 100, full 100, 10 off for an hour. */
    static Homewatcher room(int pupils) {
        Homewatcher x = new Homewatcher();
        x.classroom(0);
        for (int i = 0; i < pupils; i++) {
            x.pupil(0);
        }
        x.task(0, 100, 100, 'h', 10);
        return x;
    }

    /** Pupils 0 and 1 with tasks 0 and 1; pupil 2 and task 2 are of a class of their own. */
    static Homewatcher school() {
        Homewatcher x = room(2);
        x.task(0, 50, 40, 'g', 30);
        x.classroom(-60);
        x.pupil(1);
        x.task(1, 10, 100, 'd', 7);
        return x;
    }
}
