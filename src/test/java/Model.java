import java.util.ArrayList;
import java.util.HashSet;
import java.util.List;
import java.util.NoSuchElementException;
import java.util.Set;
import java.util.TreeMap;
import java.util.TreeSet;

/** The document once more, as plainly as the Java library allows: nothing but what was told is kept. */
final class Model {
    private static final class Task {
        int room;
        int due;
        int full;
        char rule;
        int amount;
    }

    private static final class Version {
        int number;
        int pupil;
        int task;
        Version parent;
        int saved;
        int points;
        String text;

        Set<Integer> shingles() {
            int[] codes = text.codePoints().toArray();
            Set<Integer> all = new TreeSet<>();
            for (int i = 3; i < codes.length; i++) {
                int h = 0;
                for (int k = i - 3; k <= i; k++) {
                    h = Integer.rotateLeft(h, 5) ^ codes[k];
                }
                all.add(h & 0xFFFFF);
            }
            return all;
        }
    }

    private static final class Hit {
        Version newer;
        Version other;
        int common;
        int heard = -1;
    }

    private final List<Integer> offsets = new ArrayList<>();
    private final List<Integer> pupils = new ArrayList<>();
    private final List<Task> tasks = new ArrayList<>();
    private final List<Version> versions = new ArrayList<>();
    private final List<Version> handed = new ArrayList<>();
    private final List<Integer> minutes = new ArrayList<>();
    private final Set<Version> withdrawn = new HashSet<>();
    private final List<Hit> hits = new ArrayList<>();
    private final List<Integer> typed = new ArrayList<>();
    private int time = 0;
    private int threshold = 3;

    int signCount() {
        return typed.size();
    }

    int versionCount() {
        return versions.size();
    }

    int pupilOf(int version) {
        return versions.get(version).pupil;
    }

    int taskOf(int version) {
        return versions.get(version).task;
    }

    private static void in(List<?> list, int number) {
        if (number < 0 || number >= list.size()) {
            throw new IndexOutOfBoundsException();
        }
    }

    private static void legal(boolean fine) {
        if (!fine) {
            throw new IllegalArgumentException();
        }
    }

    private static void supported(boolean fine) {
        if (!fine) {
            throw new UnsupportedOperationException();
        }
    }

    private static void state(boolean fine) {
        if (!fine) {
            throw new IllegalStateException();
        }
    }

    int classroom(int offset) {
        legal(Math.abs((long) offset) <= 720);
        state(offsets.size() < 4);
        offsets.add(offset);
        return offsets.size() - 1;
    }

    int pupil(int room) {
        in(offsets, room);
        state(pupils.size() < 12);
        pupils.add(room);
        return pupils.size() - 1;
    }

    int task(int room, int due, int full, char rule, int amount) {
        in(offsets, room);
        legal(0 <= due && due <= 1000000 && 1 <= full && full <= 100 && 0 <= amount && amount <= 100);
        legal("hdgs".indexOf(rule) >= 0);
        state(tasks.size() < 10);
        Task one = new Task();
        one.room = room;
        one.due = due;
        one.full = full;
        one.rule = rule;
        one.amount = amount;
        tasks.add(one);
        return tasks.size() - 1;
    }

    int pass(int more) {
        legal(1 <= more && more <= 100000);
        state(time + more <= 1000000);
        return time += more;
    }

    int clock(int room) {
        in(offsets, room);
        return time + offsets.get(room);
    }

    private static void sign(int code) {
        legal(code == ' ' || code >= 'a' && code <= 'z' || code >= 128512 && code <= 128591);
    }

    private static String text(List<Integer> codes) {
        StringBuilder text = new StringBuilder();
        codes.forEach(text::appendCodePoint);
        return text.toString();
    }

    int type(int code) {
        sign(code);
        state(typed.size() < 40);
        typed.add(code);
        return typed.size();
    }

    int insert(int place, int code) {
        if (place != typed.size()) {
            in(typed, place);
        }
        sign(code);
        state(typed.size() < 40);
        typed.add(place, code);
        return text(typed).length();
    }

    int reverse() {
        java.util.Collections.reverse(typed);
        return typed.isEmpty() ? 0 : typed.get(0);
    }

    int wipe() {
        int had = typed.size();
        typed.clear();
        return had;
    }

    char charAt(int place) {
        String text = text(typed);
        if (place < 0 || place >= text.length()) {
            throw new NoSuchElementException();
        }
        return text.charAt(place);
    }

    int save(int pupil, int task, int parent, int ago) {
        in(pupils, pupil);
        in(tasks, task);
        if (parent != -1) {
            in(versions, parent);
        }
        legal(0 <= ago && ago <= time);
        supported(tasks.get(task).room == pupils.get(pupil));
        Version one = new Version();
        one.parent = parent == -1 ? null : versions.get(parent);
        one.saved = time - ago;
        supported(parent == -1 || one.parent.pupil == pupil && one.parent.task == task);
        supported(parent == -1 || one.parent.saved <= one.saved);
        state(versions.size() < 60);
        one.pupil = pupil;
        one.task = task;
        one.text = text(typed);
        one.number = versions.size();
        versions.add(one);
        typed.clear();
        return one.number;
    }

    private Version version(int number) {
        in(versions, number);
        return versions.get(number);
    }

    int of(int number, char what) {
        Version one = version(number);
        switch (what) {
            case 'p': return one.parent == null ? -1 : one.parent.number;
            case 's': return one.saved;
            case 'h': return handed.contains(one) ? minutes.get(handed.indexOf(one)) : -1;
            case 'n': return one.text.codePointCount(0, one.text.length());
            case 'c': return one.text.length();
            case 'u': return one.shingles().size();
            case 'g': return one.points;
            default: throw new IllegalArgumentException();
        }
    }

    int forks(int number) {
        Version one = version(number);
        int found = -1;
        for (Version other : versions) {
            found += other.pupil == one.pupil && other.task == one.task && other.parent == one.parent ? 1 : 0;
        }
        return found;
    }

    private List<Version> versionsOf(int pupil, int task) {
        in(pupils, pupil);
        in(tasks, task);
        List<Version> all = new ArrayList<>(versions);
        all.removeIf(one -> one.pupil != pupil || one.task != task);
        return all;
    }

    int heads(int pupil, int task) {
        List<Version> all = versionsOf(pupil, task);
        Set<Version> parents = new HashSet<>();
        all.forEach(one -> parents.add(one.parent));
        all.removeAll(parents);
        return all.size();
    }

    private boolean there(Version one) {
        return handed.contains(one) && !withdrawn.contains(one);
    }

    private static int common(Version one, Version other) {
        Set<Integer> both = one.shingles();
        both.retainAll(other.shingles());
        return both.size();
    }

    int hand(int number) {
        Version one = version(number);
        supported(!handed.contains(one));
        List<Hit> made = new ArrayList<>();
        for (Version other : versions) {
            if (there(other) && other.pupil != one.pupil && common(one, other) >= threshold) {
                Hit hit = new Hit();
                hit.newer = one;
                hit.other = other;
                hit.common = common(one, other);
                made.add(hit);
            }
        }
        state(hits.size() + made.size() <= 40);
        hits.addAll(made);
        handed.add(one);
        minutes.add(time);
        return made.size();
    }

    boolean withdraw(int number) {
        Version one = version(number);
        supported(there(one));
        supported(clock(tasks.get(one.task).room) <= tasks.get(one.task).due);
        withdrawn.add(one);
        return last(one.pupil, one.task) != null;
    }

    boolean isIn(int number) {
        return there(version(number));
    }

    private int ownLate(Version one) {
        Task task = tasks.get(one.task);
        int clock = minutes.get(handed.indexOf(one)) + offsets.get(task.room);
        return clock > task.due ? clock - task.due : 0;
    }

    private int lateOf(Version one) {
        int least = ownLate(one);
        for (Version up = one.parent; up != null; up = up.parent) {
            if (there(up) && common(one, up) >= one.shingles().size() / 2 && ownLate(up) < least) {
                least = ownLate(up);
            }
        }
        return least;
    }

    int late(int number) {
        Version one = version(number);
        supported(there(one));
        return lateOf(one);
    }

    private static int begun(int late, int unit) {
        return late / unit + (late % unit == 0 ? 0 : 1);
    }

    private int offOf(Task task, int late) {
        if (late == 0) {
            return 0;
        }
        switch (task.rule) {
            case 'h': return begun(late, 60) * task.amount;
            case 'd': return begun(late, 1440) * task.amount;
            case 'g': return late > task.amount ? 10 : 0;
            default:
                int times = 1;
                for (int hour = 60; hour <= late && hour <= 360; hour += 60) {
                    times *= 2;
                }
                return times * task.amount;
        }
    }

    int off(int task, int late) {
        in(tasks, task);
        legal(0 <= late && late <= 1000000);
        return offOf(tasks.get(task), late);
    }

    int points(int number, int points) {
        Version one = version(number);
        legal(0 <= points && points <= 100);
        int before = one.points;
        one.points = points;
        return before;
    }

    private Version last(int pupil, int task) {
        Version last = null;
        for (Version one : handed) {
            last = there(one) && one.pupil == pupil && one.task == task ? one : last;
        }
        return last;
    }

    int counting(int pupil, int task) {
        versionsOf(pupil, task);
        Version last = last(pupil, task);
        if (last == null) {
            throw new NoSuchElementException();
        }
        return last.number;
    }

    boolean isFrozen(int pupil, int task) {
        List<Version> all = versionsOf(pupil, task);
        return hits.stream().anyMatch(hit -> hit.heard == -1 && (all.contains(hit.newer) || all.contains(hit.other)));
    }

    int mark(int pupil, int task) {
        List<Version> all = versionsOf(pupil, task);
        supported(!isFrozen(pupil, task));
        Version last = last(pupil, task);
        for (Hit hit : hits) {
            boolean lost = (hit.heard == 1 || hit.heard == 3) && all.contains(hit.newer)
                    || (hit.heard == 2 || hit.heard == 3) && all.contains(hit.other);
            last = lost ? null : last;
        }
        if (last == null) {
            return 0;
        }
        int mark = tasks.get(task).full * last.points / 100 - offOf(tasks.get(task), lateOf(last));
        return mark < 0 ? 0 : mark;
    }

    int shared(int number, int other) {
        return common(version(number), version(other));
    }

    int shingle(int number, int index) {
        List<Integer> all = new ArrayList<>(version(number).shingles());
        if (index < 0 || index >= all.size()) {
            throw new NoSuchElementException();
        }
        return all.get(index);
    }

    private TreeMap<Integer, Integer> index() {
        TreeMap<Integer, Integer> index = new TreeMap<>();
        for (Version one : versions) {
            if (there(one)) {
                one.shingles().forEach(shingle -> index.merge(shingle, 1, Integer::sum));
            }
        }
        return index;
    }

    int indexed() {
        return index().size();
    }

    int holders(int shingle) {
        return index().getOrDefault(shingle, 0);
    }

    int threshold(int next) {
        legal(1 <= next && next <= 37);
        int before = threshold;
        threshold = next;
        return before;
    }

    int hits() {
        return hits.size();
    }

    int hit(int number, char what) {
        in(hits, number);
        Hit hit = hits.get(number);
        switch (what) {
            case 'n': return hit.newer.number;
            case 'o': return hit.other.number;
            case 'c': return hit.common;
            case 'h': return hit.heard;
            default: throw new IllegalArgumentException();
        }
    }

    int hear(int number, int who) {
        in(hits, number);
        legal(0 <= who && who <= 3);
        supported(hits.get(number).heard == -1);
        hits.get(number).heard = who;
        return (int) hits.stream().filter(hit -> hit.heard == -1).count();
    }

    int next() {
        for (int common = 37; common > 0; common--) {
            for (Hit hit : hits) {
                if (hit.heard == -1 && hit.common == common) {
                    return hits.indexOf(hit);
                }
            }
        }
        throw new NoSuchElementException();
    }

    byte byteSum(int number) {
        return (byte) version(number).text.chars().sum();
    }

    short shortSum(int number) {
        return (short) version(number).text.hashCode();
    }

    long packed(int number) {
        Version one = version(number);
        long sum = byteSum(number) < 0 ? byteSum(number) + 256 : byteSum(number);
        return (((number * 256L + sum) * 16 + one.pupil) * 16 + one.task) * (1L << 32) + one.saved;
    }

    float inShare() {
        if (versions.isEmpty()) {
            throw new ArithmeticException();
        }
        return (float) versions.stream().filter(this::there).count() / (float) versions.size();
    }

    double meanMark() {
        List<Integer> marks = new ArrayList<>();
        for (int pupil = 0; pupil < pupils.size(); pupil++) {
            for (int task = 0; task < tasks.size(); task++) {
                if (tasks.get(task).room == pupils.get(pupil) && !isFrozen(pupil, task)) {
                    marks.add(mark(pupil, task));
                }
            }
        }
        if (marks.isEmpty()) {
            throw new ArithmeticException();
        }
        return (double) marks.stream().mapToInt(mark -> mark).sum() / (double) marks.size();
    }

    boolean isTrue() {
        return true;
    }
}
