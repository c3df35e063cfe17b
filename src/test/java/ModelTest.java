import java.util.function.Supplier;

/** Long runs of calls, the same ones each time, on the program and on the model: all answers are alike. */
final class ModelTest {
    private static final int RUNS = 400;
    private static final int CALLS = 512;
    private static final String RULES = "hdgsx";
    private static final String LETTERS = "pshncugx";
    private static final String HIT_LETTERS = "nochx";
    private static final String[] WORDS = {"abcdefgh", "abcde", "defghabc", "zzzzz", "the cat", "aaaa", "hgfedcba", "ab"};

    private long seed;
    private final Homewatcher x = new Homewatcher();
    private final Model m = new Model();
    private StringBuilder trace = new StringBuilder();
    private boolean like = true;

    private ModelTest(long seed) {
        this.seed = seed;
    }

    public static void main(String[] args) {
        int answers = 0;
        for (int run = 0; run < RUNS; run++) {
            ModelTest test = new ModelTest(run * 7919L + 13);
            int calls = test.play(run % 4);
            answers += calls;
            Check.same("run " + run + " is like the model" + (test.like ? "" : test.trace), test.like, true);
        }
        System.out.println(answers + " answers");
        Check.end();
    }

    /** A number from 0 up to below the limit. */
    private int any(int limit) {
        seed = seed * 6364136223846793005L + 1442695040888963407L;
        return (int) ((seed >>> 33) % limit);
    }

    /** Mostly a number below the count, sometimes one beside. */
    private int near(int count) {
        return any(20) == 0 ? any(count + 3) - 1 : any(Math.max(1, count));
    }

    private int play(int kind) {
        int calls = begin(kind);
        while (calls < CALLS && like) {
            step(kind);
            calls++;
        }
        return calls;
    }

    private int begin(int kind) {
        int rooms = kind == 0 ? 1 : 2;
        for (int i = 0; i < rooms; i++) {
            int offset = any(1441) - 720;
            both("classroom " + offset, () -> x.classroom(offset), () -> m.classroom(offset));
        }
        for (int i = 0; i < 3; i++) {
            int room = any(rooms);
            both("pupil " + room, () -> x.pupil(room), () -> m.pupil(room));
        }
        for (int i = 0; i < 2; i++) {
            int room = any(rooms);
            int due = any(3000);
            char rule = RULES.charAt(any(4));
            int amount = any(20);
            both("task " + room + " " + due + rule + amount, () -> x.task(room, due, 90, rule, amount),
                    () -> m.task(room, due, 90, rule, amount));
        }
        return rooms + 5;
    }

    private void step(int kind) {
        int dice = any(100);
        if (dice < 34) {
            write(kind);
        } else if (dice < 58) {
            keep(kind);
        } else if (dice < 66) {
            set(any(8));
        } else if (dice < 84) {
            look(any(15));
        } else {
            lookAtMarks(any(9));
        }
    }

    private void write(int kind) {
        int dice = any(40);
        if (dice < 30) {
            int code = kind == 3 ? 128512 + any(80) : 97 + any(3);
            both("type " + code, () -> x.type(code), () -> m.type(code));
        } else if (dice < 35) {
            int place = any(44) - 2;
            int code = any(10) == 0 ? any(130) : 128500 + any(100);
            both("insert " + place + " " + code, () -> x.insert(place, code), () -> m.insert(place, code));
        } else if (dice < 37) {
            both("reverse", () -> x.reverse(), () -> m.reverse());
        } else if (dice < 38) {
            both("wipe", () -> x.wipe(), () -> m.wipe());
        } else {
            int place = any(90) - 2;
            both("charAt " + place, () -> x.charAt(place), () -> m.charAt(place));
        }
    }

    private void word() {
        String word = WORDS[any(WORDS.length)];
        for (int i = 0; i < word.length(); i++) {
            int code = word.charAt(i);
            both("type " + code, () -> x.type(code), () -> m.type(code));
        }
    }

    private void keep(int kind) {
        int dice = any(12);
        int version = near(30);
        if (dice < 5) {
            if (any(3) > 0) {
                word();
            }
            int pupil = near(4);
            int task = near(3);
            int parent = any(3) == 0 ? -1 : near(20);
            int ago = any(4) == 0 ? any(500) : 0;
            both("save " + pupil + " " + task + " " + parent + " " + ago,
                    () -> x.save(pupil, task, parent, ago), () -> m.save(pupil, task, parent, ago));
        } else if (dice < 10) {
            both("hand " + version, () -> x.hand(version), () -> m.hand(version));
        } else {
            both("withdraw " + version, () -> x.withdraw(version), () -> m.withdraw(version));
        }
    }

    private void set(int dice) {
        int a = near(4);
        if (dice == 0) {
            int offset = any(1500) - 750;
            both("classroom " + offset, () -> x.classroom(offset), () -> m.classroom(offset));
        } else if (dice == 1) {
            both("pupil " + a, () -> x.pupil(a), () -> m.pupil(a));
        } else if (dice == 2) {
            int due = any(3000) - 10;
            int full = any(110) - 4;
            char rule = RULES.charAt(any(5));
            int amount = any(110) - 4;
            both("task " + a + " " + due + " " + full + rule + amount,
                    () -> x.task(a, due, full, rule, amount), () -> m.task(a, due, full, rule, amount));
        } else if (dice < 5) {
            int minutes = any(6) == 0 ? any(100100) : any(300);
            both("pass " + minutes, () -> x.pass(minutes), () -> m.pass(minutes));
        } else if (dice == 5) {
            int threshold = any(4) == 0 ? any(40) - 1 : 1 + any(5);
            both("threshold " + threshold, () -> x.threshold(threshold), () -> m.threshold(threshold));
        } else {
            int version = near(30);
            int points = any(110) - 4;
            both("points " + version + " " + points,
                    () -> x.points(version, points), () -> m.points(version, points));
        }
    }

    private void look(int dice) {
        int a = near(40);
        int b = near(40);
        switch (dice) {
            case 0: both("forks " + a, () -> x.forks(a), () -> m.forks(a)); break;
            case 1: both("isIn " + a, () -> x.isIn(a), () -> m.isIn(a)); break;
            case 2: case 3: both("late " + a, () -> x.late(a), () -> m.late(a)); break;
            case 4: both("shared " + a + " " + b, () -> x.shared(a, b), () -> m.shared(a, b)); break;
            case 5: both("shingle " + a + " " + b, () -> x.shingle(a, b), () -> m.shingle(a, b)); break;
            case 6: both("indexed", () -> x.indexed(), () -> m.indexed()); break;
            case 7: holders(a, b); break;
            case 8: both("byteSum " + a, () -> x.byteSum(a), () -> m.byteSum(a)); break;
            case 9: both("shortSum " + a, () -> x.shortSum(a), () -> m.shortSum(a)); break;
            case 10: both("packed " + a, () -> x.packed(a), () -> m.packed(a)); break;
            case 11: both("inShare", () -> x.inShare(), () -> m.inShare()); break;
            case 12: both("isTrue", () -> x.isTrue(), () -> m.isTrue()); break;
            case 13: both("clock " + a / 8, () -> x.clock(a / 8), () -> m.clock(a / 8)); break;
            default:
                char what = LETTERS.charAt(any(8));
                both("of " + a + what, () -> x.of(a, what), () -> m.of(a, what));
        }
    }

    /** Asks for a shingle that a version has, where there is one. */
    private void holders(int version, int index) {
        int shingle = 33000;
        try {
            shingle = m.shingle(version, index);
        } catch (RuntimeException none) {
            shingle = version;
        }
        int asked = shingle;
        both("holders " + asked, () -> x.holders(asked), () -> m.holders(asked));
    }

    private void lookAtMarks(int dice) {
        int pupil = near(4);
        int task = near(3);
        int hit = near(10);
        String pair = " " + pupil + " " + task;
        switch (dice) {
            case 0: both("heads" + pair, () -> x.heads(pupil, task), () -> m.heads(pupil, task)); break;
            case 1: both("counting" + pair, () -> x.counting(pupil, task), () -> m.counting(pupil, task)); break;
            case 2: case 3: both("mark" + pair, () -> x.mark(pupil, task), () -> m.mark(pupil, task)); break;
            case 4: both("isFrozen" + pair, () -> x.isFrozen(pupil, task), () -> m.isFrozen(pupil, task)); break;
            case 5: both("meanMark", () -> x.meanMark(), () -> m.meanMark()); break;
            case 6:
                char what = HIT_LETTERS.charAt(any(5));
                both("hit " + hit + what, () -> x.hit(hit, what), () -> m.hit(hit, what));
                break;
            case 7:
                int who = any(30) == 0 ? any(7) - 1 : any(4);
                both("hear " + hit + " " + who, () -> x.hear(hit, who), () -> m.hear(hit, who));
                break;
            default:
                int late = any(3) == 0 ? any(1000100) - 50 : any(500);
                both("off " + task + " " + late, () -> x.off(task, late), () -> m.off(task, late));
                both("next", () -> x.next(), () -> m.next());
                both("hits", () -> x.hits(), () -> m.hits());
        }
    }

    private void both(String what, Supplier<Object> got, Supplier<Object> due) {
        if (!like) {
            return;
        }
        String mine = answer(got);
        String models = answer(due);
        trace.append('\n').append(what).append(" -> ").append(mine);
        if (!mine.equals(models)) {
            trace.append(", due is ").append(models).append('\n');
            like = false;
        }
    }

    private static String answer(Supplier<Object> call) {
        try {
            return String.valueOf(call.get());
        } catch (RuntimeException e) {
            return "throws " + e.getClass().getSimpleName();
        }
    }
}
