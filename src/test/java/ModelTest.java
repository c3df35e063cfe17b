import java.util.function.Supplier;

/** Long runs of calls, the same ones each time, on the program and on the model: all answers are alike. */
final class ModelTest {
    private static final int RUNS = 600;
    private static final int CALLS = 512;
    private static final String RULES = "hdgsx";
    private static final String LETTERS = "pshncugx";
    private static final String HIT_LETTERS = "nochx";
    private static final String[] WORDS = {"abcdefgh", "abcde", "defghabc", "zzzzz", "the cat", "aaaa", "hgfedcba", "ab"};
    private static final String[] SHORT_WORDS = {"aaaa", "abcd", "aaab", "bcd"};
    private static final int LONG_TEXTS = 1;
    private static final int MANY_VERSIONS = 2;
    private static final int FACES = 3;
    private static final int LATE = 4;
    private static final int KINDS = 5;

    private long seed;
    private final Homewatcher x = new Homewatcher();
    private final Model m = new Model();
    private StringBuilder trace = new StringBuilder();
    private boolean like = true;
    private int calls = 0;

    private ModelTest(long seed) {
        this.seed = seed;
    }

    public static void main(String[] args) {
        int answers = 0;
        for (int run = 0; run < RUNS; run++) {
            ModelTest test = new ModelTest(run * 7919L + 13);
            test.play(run % KINDS);
            answers += test.calls;
            Check.same("run " + run + " is like the model" + (test.like ? "" : test.trace), test.like, true);
        }
        System.out.println(answers + " answers");
        Check.end();
    }

    /** A number from 0 up to below the limit. */
    private int any(int limit) {
        seed = seed * 6364136223846793005L + 1442695040888963407L;
        return (int) ((seed >>> 33) % limit);
    }

    /** Mostly a number below the count, sometimes one beside. */
    private int near(int count) {
        return any(20) == 0 ? any(count + 3) - 1 : any(Math.max(1, count));
    }

    private int version() {
        return near(m.versionCount());
    }

    private void play(int kind) {
        begin(kind);
        while (calls < CALLS && like) {
            step(kind);
        }
    }

    private void begin(int kind) {
        int rooms = kind == 0 || kind == MANY_VERSIONS ? 1 : 2;
        for (int i = 0; i < rooms; i++) {
            int offset = any(1441) - 720;
            both("classroom " + offset, () -> x.classroom(offset), () -> m.classroom(offset));
        }
        for (int i = 0; i < 4; i++) {
            int room = any(rooms);
            both("pupil " + room, () -> x.pupil(room), () -> m.pupil(room));
        }
        for (int i = 0; i < 3; i++) {
            int room = i % rooms;
            int due = any(kind == LATE ? 300 : 3000);
            char rule = RULES.charAt(any(4));
            int amount = any(20);
            both("task " + room + " " + due + rule + amount, () -> x.task(room, due, 90, rule, amount),
                    () -> m.task(room, due, 90, rule, amount));
        }
        if (kind == MANY_VERSIONS) {
            both("threshold 1", () -> x.threshold(1), () -> m.threshold(1));
        }
    }

    private void step(int kind) {
        int dice = any(100);
        if (kind == MANY_VERSIONS) {
            dice = 30 + any(70);
        }
        if (dice < 30) {
            write(kind);
        } else if (dice < 62) {
            keep(kind);
        } else if (dice < 70) {
            set(any(20));
        } else if (dice < 84) {
            look(any(15));
        } else {
            lookAtMarks(any(11));
        }
    }

    private void write(int kind) {
        int dice = any(30);
        if (dice < (kind == LONG_TEXTS || kind == FACES ? 24 : 8)) {
            int code = kind == FACES ? 128512 + any(80) : 97 + any(3);
            both("type " + code, () -> x.type(code), () -> m.type(code));
        } else if (dice < 12 || dice == 24) {
            int place = any(60) == 0 ? any(44) - 2 : any(1 + m.signCount());
            int code = any(10) == 0 ? any(130) : 128500 + any(100);
            both("insert " + place + " " + code, () -> x.insert(place, code), () -> m.insert(place, code));
        } else if (dice < 14 || dice == 25) {
            both("reverse", () -> x.reverse(), () -> m.reverse());
        } else if (dice < 15 || dice == 26 && any(8) == 0) {
            both("wipe", () -> x.wipe(), () -> m.wipe());
        } else {
            int place = near(m.signCount() * 2);
            both("charAt " + place, () -> x.charAt(place), () -> m.charAt(place));
        }
    }

    private void word(String[] words) {
        String word = words[any(words.length)];
        for (int i = 0; i < word.length(); i++) {
            int code = word.charAt(i);
            both("type " + code, () -> x.type(code), () -> m.type(code));
        }
    }

    private void keep(int kind) {
        int dice = any(20);
        int version = any(4) == 0 ? m.versionCount() - 1 : version();
        if (dice < 8) {
            save(kind);
        } else if (dice < 17) {
            both("hand " + version, () -> x.hand(version), () -> m.hand(version));
        } else {
            both("withdraw " + version, () -> x.withdraw(version), () -> m.withdraw(version));
        }
    }

    private void save(int kind) {
        if (kind == MANY_VERSIONS) {
            word(SHORT_WORDS);
        } else if (any(4) > 0) {
            word(WORDS);
        }
        int parent = any(3) == 0 ? -1 : version();
        boolean child = parent >= 0 && parent < m.versionCount() && any(6) > 0;
        int pupil = child ? m.pupilOf(parent) : near(4);
        int task = child ? m.taskOf(parent) : near(3);
        int ago = any(4) == 0 ? any(500) : 0;
        both("save " + pupil + " " + task + " " + parent + " " + ago,
                () -> x.save(pupil, task, parent, ago), () -> m.save(pupil, task, parent, ago));
    }

    private void set(int dice) {
        int a = near(4);
        if (dice == 0) {
            int offset = any(1500) - 750;
            both("classroom " + offset, () -> x.classroom(offset), () -> m.classroom(offset));
        } else if (dice == 1) {
            both("pupil " + a, () -> x.pupil(a), () -> m.pupil(a));
        } else if (dice == 2) {
            int due = any(3000) - 10;
            int full = any(110) - 4;
            char rule = RULES.charAt(any(5));
            int amount = any(110) - 4;
            both("task " + a + " " + due + " " + full + rule + amount,
                    () -> x.task(a, due, full, rule, amount), () -> m.task(a, due, full, rule, amount));
        } else if (dice < 8) {
            int minutes = any(40) == 0 ? any(100100) : any(100);
            both("pass " + minutes, () -> x.pass(minutes), () -> m.pass(minutes));
        } else if (dice == 8) {
            int threshold = any(4) == 0 ? any(40) - 1 : 1 + any(5);
            both("threshold " + threshold, () -> x.threshold(threshold), () -> m.threshold(threshold));
        } else {
            int version = version();
            int points = any(10) == 0 ? any(110) - 4 : 60 + any(41);
            both("points " + version + " " + points,
                    () -> x.points(version, points), () -> m.points(version, points));
        }
    }

    private void look(int dice) {
        int a = version();
        int b = version();
        switch (dice) {
            case 0: both("forks " + a, () -> x.forks(a), () -> m.forks(a)); break;
            case 1: both("isIn " + a, () -> x.isIn(a), () -> m.isIn(a)); break;
            case 2: case 3: both("late " + a, () -> x.late(a), () -> m.late(a)); break;
            case 4: both("shared " + a + " " + b, () -> x.shared(a, b), () -> m.shared(a, b)); break;
            case 5: shingle(a, any(8) == 0 ? any(40) - 1 : any(5)); break;
            case 6: both("indexed", () -> x.indexed(), () -> m.indexed()); break;
            case 7: holders(a, any(5)); break;
            case 8: both("byteSum " + a, () -> x.byteSum(a), () -> m.byteSum(a)); break;
            case 9: both("shortSum " + a, () -> x.shortSum(a), () -> m.shortSum(a)); break;
            case 10: both("packed " + a, () -> x.packed(a), () -> m.packed(a)); break;
            case 11: both("inShare", () -> x.inShare(), () -> m.inShare()); break;
            case 12: both("isTrue", () -> x.isTrue(), () -> m.isTrue()); break;
            case 13: clock(near(3)); break;
            default:
                char what = LETTERS.charAt(any(8));
                both("of " + a + what, () -> x.of(a, what), () -> m.of(a, what));
        }
    }

    private void shingle(int version, int index) {
        both("shingle " + version + " " + index, () -> x.shingle(version, index), () -> m.shingle(version, index));
    }

    private void clock(int room) {
        both("clock " + room, () -> x.clock(room), () -> m.clock(room));
    }

    /** Asks for a shingle that a version has, where there is one. */
    private void holders(int version, int index) {
        int shingle = 33000;
        try {
            shingle = m.shingle(version, index);
        } catch (RuntimeException none) {
            shingle = version;
        }
        int asked = shingle;
        both("holders " + asked, () -> x.holders(asked), () -> m.holders(asked));
    }

    private void lookAtMarks(int dice) {
        int version = any(3) == 0 ? -1 : version();
        boolean known = version >= 0 && version < m.versionCount();
        int pupil = known ? m.pupilOf(version) : near(4);
        int task = known ? m.taskOf(version) : near(3);
        int hit = near(m.hits());
        String pair = " " + pupil + " " + task;
        switch (dice) {
            case 0: both("heads" + pair, () -> x.heads(pupil, task), () -> m.heads(pupil, task)); break;
            case 1: both("counting" + pair, () -> x.counting(pupil, task), () -> m.counting(pupil, task)); break;
            case 2: case 3: both("mark" + pair, () -> x.mark(pupil, task), () -> m.mark(pupil, task)); break;
            case 4: both("isFrozen" + pair, () -> x.isFrozen(pupil, task), () -> m.isFrozen(pupil, task)); break;
            case 5: both("meanMark", () -> x.meanMark(), () -> m.meanMark()); break;
            case 6:
                char what = HIT_LETTERS.charAt(any(5));
                both("hit " + hit + what, () -> x.hit(hit, what), () -> m.hit(hit, what));
                break;
            case 7:
                int who = any(30) == 0 ? any(7) - 1 : any(4);
                both("hear " + hit + " " + who, () -> x.hear(hit, who), () -> m.hear(hit, who));
                break;
            case 8:
                int late = any(3) == 0 ? any(1000100) - 50 : any(500);
                both("off " + task + " " + late, () -> x.off(task, late), () -> m.off(task, late));
                break;
            case 9: both("next", () -> x.next(), () -> m.next()); break;
            default: both("hits", () -> x.hits(), () -> m.hits());
        }
    }

    /** One call more of both, as long as they are alike and the document says what is due. */
    private void both(String what, Supplier<Object> got, Supplier<Object> due) {
        if (!like || calls >= CALLS) {
            return;
        }
        calls++;
        String mine = answer(got);
        String models = answer(due);
        trace.append('\n').append(what).append(" -> ").append(mine);
        if (!mine.equals(models)) {
            trace.append(", due is ").append(models).append('\n');
            like = false;
        }
    }

    private static String answer(Supplier<Object> call) {
        try {
            return String.valueOf(call.get());
        } catch (RuntimeException e) {
            return "throws " + e.getClass().getSimpleName();
        }
    }
}
