import java.util.NoSuchElementException;

/** A tracker of homework: clocks, tasks, versions, handing in, hits and marks. */
public final class Homewatcher {
    private static final int MAX_TIME = 1000000;
    private static final int MAX_PASS = 100000;
    private static final int MAX_OFFSET = 720;
    private static final int MAX_CLASSES = 4;
    private static final int MAX_PUPILS = 12;
    private static final int MAX_TASKS = 10;
    private static final int MAX_VERSIONS = 60;
    private static final int MAX_HITS = 40;
    private static final int MAX_FULL = 100;
    private static final int MAX_AMOUNT = 100;
    private static final int MAX_POINTS = 100;
    private static final int MAX_SIGNS = 40;
    private static final int SHINGLE_SIGNS = 4;
    private static final int MAX_SHINGLES = MAX_SIGNS - SHINGLE_SIGNS + 1;
    private static final int MAX_INDEXED = MAX_VERSIONS * MAX_SHINGLES;
    private static final int FIRST_THRESHOLD = 3;
    private static final int MAX_WHO = 3;
    private static final int NEWER_LOSES = 1;
    private static final int OTHER_LOSES = 2;
    private static final int NONE = -1;

    private final int[] offsets = new int[MAX_CLASSES];
    private int classCount;
    private final int[] classOfPupil = new int[MAX_PUPILS];
    private int pupilCount;
    private final Task[] tasks = new Task[MAX_TASKS];
    private int taskCount;
    private int now;
    private final Text typed = new Text();
    private final Version[] versions = new Version[MAX_VERSIONS];
    private int versionCount;
    private int handings;
    private final Bag shingleIndex = new Bag(MAX_INDEXED);
    private final Bag indexAnew = new Bag(MAX_INDEXED);
    private final Bag shinglesAnew = new Bag(MAX_SHINGLES);
    private final Hit[] hitRow = new Hit[MAX_HITS];
    private int hitCount;
    private int hitThreshold = FIRST_THRESHOLD;

    /** Makes all rows at once, so that no call needs room of its own. */
    public Homewatcher() {
        for (int i = 0; i < MAX_TASKS; i++) {
            tasks[i] = new Task();
        }
        for (int i = 0; i < MAX_VERSIONS; i++) {
            versions[i] = new Version();
        }
        for (int i = 0; i < MAX_HITS; i++) {
            hitRow[i] = new Hit();
        }
    }

    // ---- classes, pupils, tasks, time

    public int classroom(int offset) throws IllegalArgumentException, IllegalStateException {
        needRange(offset, -MAX_OFFSET, MAX_OFFSET);
        if (classCount >= MAX_CLASSES) {
            throw new IllegalStateException("no more classes");
        }
        offsets[classCount] = offset;
        classCount++;
        return classCount - 1;
    }

    public int pupil(int classroom) throws IndexOutOfBoundsException, IllegalStateException {
        needClass(classroom);
        if (pupilCount >= MAX_PUPILS) {
            throw new IllegalStateException("no more pupils");
        }
        classOfPupil[pupilCount] = classroom;
        pupilCount++;
        return pupilCount - 1;
    }

    public int task(int classroom, int due, int full, char rule, int amount)
            throws IndexOutOfBoundsException, IllegalArgumentException, IllegalStateException {
        needClass(classroom);
        needRange(due, 0, MAX_TIME);
        needRange(full, 1, MAX_FULL);
        needRange(amount, 0, MAX_AMOUNT);
        needRule(rule);
        if (taskCount >= MAX_TASKS) {
            throw new IllegalStateException("no more tasks");
        }
        Task added = tasks[taskCount];
        added.room = classroom;
        added.due = due;
        added.full = full;
        added.rule = rule;
        added.amount = amount;
        taskCount++;
        return taskCount - 1;
    }

    public int pass(int minutes) throws IllegalArgumentException, IllegalStateException {
        needRange(minutes, 1, MAX_PASS);
        if (now + minutes > MAX_TIME) {
            throw new IllegalStateException("behind the last minute");
        }
        now += minutes;
        return now;
    }

    public int clock(int classroom) throws IndexOutOfBoundsException {
        needClass(classroom);
        return now + offsets[classroom];
    }

    // ---- the text that is typed

    public int type(int code) throws IllegalArgumentException, IllegalStateException {
        needSign(code);
        needRoomForSign();
        typed.put(typed.signs, code);
        return typed.signs;
    }

    public int insert(int place, int code)
            throws IndexOutOfBoundsException, IllegalArgumentException, IllegalStateException {
        if (place < 0 || place > typed.signs) {
            throw new IndexOutOfBoundsException("no such place");
        }
        needSign(code);
        needRoomForSign();
        typed.put(place, code);
        return typed.countChars();
    }

    public int reverse() {
        typed.turn();
        return typed.signs > 0 ? typed.codes[0] : 0;
    }

    public int wipe() {
        int had = typed.signs;
        typed.signs = 0;
        return had;
    }

    public char charAt(int place) throws NoSuchElementException {
        if (place < 0 || place >= typed.countChars()) {
            throw new NoSuchElementException("no such char");
        }
        return typed.charIn(place);
    }

    // ---- versions

    public int save(int pupil, int task, int parent, int ago)
            throws IndexOutOfBoundsException, IllegalArgumentException,
            UnsupportedOperationException, IllegalStateException {
        needPupil(pupil);
        needTask(task);
        if (parent != NONE) {
            needVersion(parent);
        }
        needRange(ago, 0, now);
        if (tasks[task].room != classOfPupil[pupil]) {
            throw new UnsupportedOperationException("a task of another class");
        }
        if (parent != NONE && !versions[parent].canPrecede(pupil, task, now - ago)) {
            throw new UnsupportedOperationException("no parent for this version");
        }
        if (versionCount >= MAX_VERSIONS) {
            throw new IllegalStateException("no more versions");
        }
        Version saved = versions[versionCount];
        saved.pupil = pupil;
        saved.task = task;
        saved.parent = parent;
        saved.savedAt = now - ago;
        saved.keep(typed);
        typed.signs = 0;
        versionCount++;
        return versionCount - 1;
    }

    public int of(int version, char what) throws IndexOutOfBoundsException, IllegalArgumentException {
        needVersion(version);
        Version asked = versions[version];
        switch (what) {
            case 'p':
                return asked.parent;
            case 's':
                return asked.savedAt;
            case 'h':
                return asked.handedAt;
            case 'n':
                return asked.text.signs;
            case 'c':
                return asked.text.countChars();
            case 'u':
                return asked.shingles.size;
            case 'g':
                return asked.told;
            default:
                throw new IllegalArgumentException("no such letter");
        }
    }

    public int forks(int version) throws IndexOutOfBoundsException {
        needVersion(version);
        Version asked = versions[version];
        int found = 0;
        for (int i = 0; i < versionCount; i++) {
            Version other = versions[i];
            if (i != version && other.isOf(asked.pupil, asked.task) && other.parent == asked.parent) {
                found++;
            }
        }
        return found;
    }

    public int heads(int pupil, int task) throws IndexOutOfBoundsException {
        needPupil(pupil);
        needTask(task);
        int found = 0;
        for (int i = 0; i < versionCount; i++) {
            if (versions[i].isOf(pupil, task) && !isParent(i)) {
                found++;
            }
        }
        return found;
    }

    // ---- handing in

    public int hand(int version)
            throws IndexOutOfBoundsException, UnsupportedOperationException, IllegalStateException {
        needVersion(version);
        Version handed = versions[version];
        if (handed.handedAt != NONE) {
            throw new UnsupportedOperationException("it was handed in");
        }
        int found = countMatches(handed);
        if (hitCount + found > MAX_HITS) {
            throw new IllegalStateException("too many hits");
        }
        addHits(version);
        handed.handedAt = now;
        handed.turn = handings;
        handings++;
        shingleIndex.addKeysOf(handed.shingles);
        return found;
    }

    public boolean withdraw(int version) throws IndexOutOfBoundsException, UnsupportedOperationException {
        needVersion(version);
        Version gone = versions[version];
        if (!gone.isThere()) {
            throw new UnsupportedOperationException("it is not in");
        }
        if (minutesBehindDue(gone.task, now) > 0) {
            throw new UnsupportedOperationException("the task was due");
        }
        gone.withdrawn = true;
        shingleIndex.dropKeysOf(gone.shingles);
        return findCounting(gone.pupil, gone.task) != NONE;
    }

    public boolean isIn(int version) throws IndexOutOfBoundsException {
        needVersion(version);
        return versions[version].isThere();
    }

    public int late(int version) throws IndexOutOfBoundsException, UnsupportedOperationException {
        needVersion(version);
        if (!versions[version].isThere()) {
            throw new UnsupportedOperationException("it is not in");
        }
        return leastLate(versions[version]);
    }

    public int off(int task, int late) throws IndexOutOfBoundsException, IllegalArgumentException {
        needTask(task);
        needRange(late, 0, MAX_TIME);
        return tasks[task].pointsOff(late);
    }

    // ---- marks

    public int points(int version, int points) throws IndexOutOfBoundsException, IllegalArgumentException {
        needVersion(version);
        needRange(points, 0, MAX_POINTS);
        int before = versions[version].told;
        versions[version].told = points;
        return before;
    }

    public int counting(int pupil, int task) throws IndexOutOfBoundsException, NoSuchElementException {
        needPupil(pupil);
        needTask(task);
        int found = findCounting(pupil, task);
        if (found == NONE) {
            throw new NoSuchElementException("no version counts");
        }
        return found;
    }

    public int mark(int pupil, int task) throws IndexOutOfBoundsException, UnsupportedOperationException {
        needPupil(pupil);
        needTask(task);
        if (hasOpenHit(pupil, task)) {
            throw new UnsupportedOperationException("it is frozen");
        }
        return makeMark(pupil, task);
    }

    public boolean isFrozen(int pupil, int task) throws IndexOutOfBoundsException {
        needPupil(pupil);
        needTask(task);
        return hasOpenHit(pupil, task);
    }

    // ---- shingles and the index

    public int shared(int version, int other) throws IndexOutOfBoundsException {
        needVersion(version);
        needVersion(other);
        return versions[version].shingles.countCommon(versions[other].shingles);
    }

    public int shingle(int version, int index) throws IndexOutOfBoundsException, NoSuchElementException {
        needVersion(version);
        Bag row = versions[version].shingles;
        if (index < 0 || index >= row.size) {
            throw new NoSuchElementException("no such shingle");
        }
        return row.keys[index];
    }

    public int indexed() {
        return shingleIndex.size;
    }

    public int holders(int shingle) {
        return shingleIndex.countOf(shingle);
    }

    // ---- hits

    public int threshold(int threshold) throws IllegalArgumentException {
        needRange(threshold, 1, MAX_SHINGLES);
        int before = hitThreshold;
        hitThreshold = threshold;
        return before;
    }

    public int hits() {
        return hitCount;
    }

    public int hit(int hit, char what) throws IndexOutOfBoundsException, IllegalArgumentException {
        needHit(hit);
        Hit asked = hitRow[hit];
        switch (what) {
            case 'n':
                return asked.newer;
            case 'o':
                return asked.other;
            case 'c':
                return asked.common;
            case 'h':
                return asked.losers;
            default:
                throw new IllegalArgumentException("no such letter");
        }
    }

    public int hear(int hit, int who)
            throws IndexOutOfBoundsException, IllegalArgumentException, UnsupportedOperationException {
        needHit(hit);
        needRange(who, 0, MAX_WHO);
        if (!hitRow[hit].isOpen()) {
            throw new UnsupportedOperationException("it was heard");
        }
        hitRow[hit].losers = who;
        return countOpenHits();
    }

    public int next() throws NoSuchElementException {
        int best = NONE;
        int most = 0;
        for (int i = 0; i < hitCount; i++) {
            if (hitRow[i].isOpen() && hitRow[i].common > most) {
                best = i;
                most = hitRow[i].common;
            }
        }
        if (best == NONE) {
            throw new NoSuchElementException("no open hit");
        }
        return best;
    }

    // ---- sums

    public byte byteSum(int version) throws IndexOutOfBoundsException {
        needVersion(version);
        return versions[version].text.sumBytes();
    }

    public short shortSum(int version) throws IndexOutOfBoundsException {
        needVersion(version);
        return versions[version].text.sumShorts();
    }

    public long packed(int version) throws IndexOutOfBoundsException {
        needVersion(version);
        Version asked = versions[version];
        long sum = asked.text.sumBytes() & 0xFF;
        return ((long) version << 48) | (sum << 40) | ((long) asked.pupil << 36)
                | ((long) asked.task << 32) | asked.savedAt;
    }

    public float inShare() throws ArithmeticException {
        if (versionCount == 0) {
            throw new ArithmeticException("no versions");
        }
        int there = 0;
        for (int i = 0; i < versionCount; i++) {
            if (versions[i].isThere()) {
                there++;
            }
        }
        return (float) there / (float) versionCount;
    }

    public double meanMark() throws ArithmeticException {
        int sum = 0;
        int number = 0;
        for (int pupil = 0; pupil < pupilCount; pupil++) {
            for (int task = 0; task < taskCount; task++) {
                if (tasks[task].room == classOfPupil[pupil] && !hasOpenHit(pupil, task)) {
                    sum += makeMark(pupil, task);
                    number++;
                }
            }
        }
        if (number == 0) {
            throw new ArithmeticException("no marks");
        }
        return (double) sum / (double) number;
    }

    public boolean isTrue() {
        return isIndexRight() && areCountingRight() && areMarksRight();
    }

    // ---- what the face needs of numbers

    private static void needRange(int number, int least, int most) {
        if (number < least || number > most) {
            throw new IllegalArgumentException("a number out of range");
        }
    }

    private static void needRule(char rule) {
        if (rule != 'h' && rule != 'd' && rule != 'g' && rule != 's') {
            throw new IllegalArgumentException("no such rule");
        }
    }

    private static void needSign(int code) {
        boolean letter = code >= 97 && code <= 122;
        boolean face = code >= 128512 && code <= 128591;
        if (!letter && !face && code != 32) {
            throw new IllegalArgumentException("no such sign");
        }
    }

    private void needRoomForSign() {
        if (typed.signs >= MAX_SIGNS) {
            throw new IllegalStateException("no more signs");
        }
    }

    private void needClass(int classroom) {
        if (classroom < 0 || classroom >= classCount) {
            throw new IndexOutOfBoundsException("no such class");
        }
    }

    private void needPupil(int pupil) {
        if (pupil < 0 || pupil >= pupilCount) {
            throw new IndexOutOfBoundsException("no such pupil");
        }
    }

    private void needTask(int task) {
        if (task < 0 || task >= taskCount) {
            throw new IndexOutOfBoundsException("no such task");
        }
    }

    private void needVersion(int version) {
        if (version < 0 || version >= versionCount) {
            throw new IndexOutOfBoundsException("no such version");
        }
    }

    private void needHit(int hit) {
        if (hit < 0 || hit >= hitCount) {
            throw new IndexOutOfBoundsException("no such hit");
        }
    }

    // ---- versions among each other

    private boolean isParent(int version) {
        for (int i = 0; i < versionCount; i++) {
            if (versions[i].parent == version) {
                return true;
            }
        }
        return false;
    }

    private int findCounting(int pupil, int task) {
        int last = NONE;
        int lastTurn = NONE;
        for (int i = 0; i < versionCount; i++) {
            Version one = versions[i];
            if (one.isOf(pupil, task) && one.isThere() && one.turn > lastTurn) {
                last = i;
                lastTurn = one.turn;
            }
        }
        return last;
    }

    // ---- lateness and marks

    private int minutesBehindDue(int task, int minute) {
        Task asked = tasks[task];
        return Math.max(0, minute + offsets[asked.room] - asked.due);
    }

    /** An ancestor's own minutes count, not those that an ancestor of it may have lent to it. */
    private int leastLate(Version asked) {
        int least = minutesBehindDue(asked.task, asked.handedAt);
        int half = asked.shingles.size / 2;
        int up = asked.parent;
        for (int step = 0; step < MAX_VERSIONS && up != NONE; step++) {
            Version ancestor = versions[up];
            if (ancestor.isThere() && ancestor.shingles.countCommon(asked.shingles) >= half) {
                least = Math.min(least, minutesBehindDue(ancestor.task, ancestor.handedAt));
            }
            up = ancestor.parent;
        }
        return least;
    }

    private int makeMark(int pupil, int task) {
        int counts = findCounting(pupil, task);
        if (counts == NONE || isLost(pupil, task)) {
            return 0;
        }
        Version best = versions[counts];
        int whole = tasks[task].full * best.told / 100;
        return Math.max(0, whole - tasks[task].pointsOff(leastLate(best)));
    }

    // ---- hits

    private boolean isMatch(Version handed, Version other) {
        return other.isThere() && other.pupil != handed.pupil
                && other.shingles.countCommon(handed.shingles) >= hitThreshold;
    }

    private int countMatches(Version handed) {
        int found = 0;
        for (int i = 0; i < versionCount; i++) {
            if (isMatch(handed, versions[i])) {
                found++;
            }
        }
        return found;
    }

    private void addHits(int version) {
        Version handed = versions[version];
        for (int i = 0; i < versionCount && hitCount < MAX_HITS; i++) {
            if (isMatch(handed, versions[i])) {
                Hit added = hitRow[hitCount];
                added.newer = version;
                added.other = i;
                added.common = versions[i].shingles.countCommon(handed.shingles);
                hitCount++;
            }
        }
    }

    private int countOpenHits() {
        int open = 0;
        for (int i = 0; i < hitCount; i++) {
            if (hitRow[i].isOpen()) {
                open++;
            }
        }
        return open;
    }

    private boolean hasOpenHit(int pupil, int task) {
        for (int i = 0; i < hitCount; i++) {
            Hit one = hitRow[i];
            if (one.isOpen() && (versions[one.newer].isOf(pupil, task) || versions[one.other].isOf(pupil, task))) {
                return true;
            }
        }
        return false;
    }

    private boolean isLost(int pupil, int task) {
        for (int i = 0; i < hitCount; i++) {
            Hit one = hitRow[i];
            if (one.takesFrom(NEWER_LOSES) && versions[one.newer].isOf(pupil, task)) {
                return true;
            }
            if (one.takesFrom(OTHER_LOSES) && versions[one.other].isOf(pupil, task)) {
                return true;
            }
        }
        return false;
    }

    // ---- the check of it all

    private boolean isIndexRight() {
        indexAnew.size = 0;
        for (int i = 0; i < versionCount; i++) {
            if (versions[i].isThere()) {
                versions[i].text.cutInto(shinglesAnew);
                indexAnew.addKeysOf(shinglesAnew);
            }
        }
        return shingleIndex.isLike(indexAnew);
    }

    private boolean areCountingRight() {
        for (int pupil = 0; pupil < pupilCount; pupil++) {
            for (int task = 0; task < taskCount; task++) {
                int counts = findCounting(pupil, task);
                if (counts != NONE && versions[counts].withdrawn) {
                    return false;
                }
            }
        }
        return true;
    }

    /**
     * No mark is kept: each is made of versions and clocks as it is asked for. The one thing
     * on its way that is kept and could go stale are the shingles of the versions.
     */
    private boolean areMarksRight() {
        for (int i = 0; i < versionCount; i++) {
            versions[i].text.cutInto(shinglesAnew);
            if (!versions[i].shingles.isLike(shinglesAnew)) {
                return false;
            }
        }
        return true;
    }

    private static final class Task {
        int room;
        int due;
        int full;
        char rule;
        int amount;

        int pointsOff(int minutes) {
            if (minutes <= 0) {
                return 0;
            }
            switch (rule) {
                case 'h':
                    return amount * ((minutes + 59) / 60);
                case 'd':
                    return amount * ((minutes + 1439) / 1440);
                case 'g':
                    return minutes > amount ? 10 : 0;
                default:
                    return amount * (1 << Math.min(6, minutes / 60));
            }
        }
    }

    /** A row of signs, kept by their codes: a place of a sign is a place of the row then. */
    private static final class Text {
        final int[] codes = new int[MAX_SIGNS];
        int signs;

        void put(int place, int code) {
            if (place < 0 || place > signs || signs >= codes.length) {
                return;
            }
            System.arraycopy(codes, place, codes, place + 1, signs - place);
            codes[place] = code;
            signs++;
        }

        void copyFrom(Text other) {
            System.arraycopy(other.codes, 0, codes, 0, codes.length);
            signs = other.signs;
        }

        void turn() {
            for (int low = 0, high = signs - 1; low < high; low++, high--) {
                int code = codes[low];
                codes[low] = codes[high];
                codes[high] = code;
            }
        }

        static int width(int code) {
            return code > 65535 ? 2 : 1;
        }

        /** A sign of two chars is a pair of surrogates, 10 bits of the code behind 65535 in each. */
        static char part(int code, int number) {
            if (code <= 65535) {
                return (char) code;
            }
            int rest = code - 65536;
            return (char) (number == 0 ? 0xD800 + (rest >> 10) : 0xDC00 + (rest & 0x3FF));
        }

        int countChars() {
            int chars = 0;
            for (int i = 0; i < signs; i++) {
                chars += width(codes[i]);
            }
            return chars;
        }

        char charIn(int place) {
            int left = place;
            for (int i = 0; i < signs; i++) {
                if (left < width(codes[i])) {
                    return part(codes[i], left);
                }
                left -= width(codes[i]);
            }
            return 0;
        }

        byte sumBytes() {
            byte sum = 0;
            for (int i = 0; i < signs; i++) {
                for (int k = 0; k < width(codes[i]); k++) {
                    sum = (byte) (sum + part(codes[i], k));
                }
            }
            return sum;
        }

        short sumShorts() {
            short sum = 0;
            for (int i = 0; i < signs; i++) {
                for (int k = 0; k < width(codes[i]); k++) {
                    sum = (short) (sum * 31 + part(codes[i], k));
                }
            }
            return sum;
        }

        void cutInto(Bag bag) {
            bag.size = 0;
            for (int first = 0; first + SHINGLE_SIGNS <= signs; first++) {
                int h = 0;
                for (int i = first; i < first + SHINGLE_SIGNS; i++) {
                    h = ((h << 5) | (h >>> 27)) ^ codes[i];
                }
                bag.add(h & 0xFFFFF);
            }
        }
    }

    /** Unlike numbers by rising size, each with a count of how often it was added. */
    private static final class Bag {
        private static final int FIRST_STEP = 2048;

        final int[] keys;
        final int[] counts;
        int size;

        Bag(int most) {
            keys = new int[Math.max(0, most)];
            counts = new int[Math.max(0, most)];
        }

        /** Halves its steps, so that the end of the search can be seen; they reach over 4095 keys. */
        int countBelow(int key) {
            int below = 0;
            for (int step = FIRST_STEP; step > 0; step >>= 1) {
                if (below + step <= size && keys[below + step - 1] < key) {
                    below += step;
                }
            }
            return below;
        }

        int countOf(int key) {
            int place = countBelow(key);
            return place < size && keys[place] == key ? counts[place] : 0;
        }

        void add(int key) {
            int place = countBelow(key);
            if (place < size && keys[place] == key) {
                counts[place]++;
                return;
            }
            if (size >= keys.length) {
                return;
            }
            System.arraycopy(keys, place, keys, place + 1, size - place);
            System.arraycopy(counts, place, counts, place + 1, size - place);
            keys[place] = key;
            counts[place] = 1;
            size++;
        }

        void drop(int key) {
            int place = countBelow(key);
            if (place >= size || keys[place] != key) {
                return;
            }
            counts[place]--;
            if (counts[place] == 0) {
                size--;
                System.arraycopy(keys, place + 1, keys, place, size - place);
                System.arraycopy(counts, place + 1, counts, place, size - place);
            }
        }

        void addKeysOf(Bag other) {
            for (int i = 0; i < other.size; i++) {
                add(other.keys[i]);
            }
        }

        void dropKeysOf(Bag other) {
            for (int i = 0; i < other.size; i++) {
                drop(other.keys[i]);
            }
        }

        int countCommon(Bag other) {
            int common = 0;
            int theirs = 0;
            for (int mine = 0; mine < size; mine++) {
                while (theirs < other.size && other.keys[theirs] < keys[mine]) {
                    theirs++;
                }
                if (theirs < other.size && other.keys[theirs] == keys[mine]) {
                    common++;
                }
            }
            return common;
        }

        boolean isLike(Bag other) {
            if (size != other.size) {
                return false;
            }
            for (int i = 0; i < size; i++) {
                if (keys[i] != other.keys[i] || counts[i] != other.counts[i]) {
                    return false;
                }
            }
            return true;
        }
    }

    private static final class Version {
        int pupil;
        int task;
        int parent = NONE;
        int savedAt;
        int handedAt = NONE;
        int turn = NONE;
        boolean withdrawn;
        int told;
        final Text text = new Text();
        final Bag shingles = new Bag(MAX_SHINGLES);

        void keep(Text typed) {
            text.copyFrom(typed);
            text.cutInto(shingles);
        }

        boolean isOf(int onePupil, int oneTask) {
            return pupil == onePupil && task == oneTask;
        }

        boolean canPrecede(int childPupil, int childTask, int childSavedAt) {
            return isOf(childPupil, childTask) && savedAt <= childSavedAt;
        }

        boolean isThere() {
            return handedAt != NONE && !withdrawn;
        }
    }

    /** The numbers of its versions stand for pupils, tasks and texts: a version never changes these. */
    private static final class Hit {
        int newer;
        int other;
        int common;
        int losers = NONE;

        boolean isOpen() {
            return losers == NONE;
        }

        boolean takesFrom(int bit) {
            return !isOpen() && (losers & bit) != 0;
        }
    }
}
