/** A family of sets of points: its sunflowers, the points that hit it, and its kernels. */
public final class PetalSets {
    public static final int NONE = -1;

    private static final int NOTHING = -2;
    private static final int MOST_POINTS = 10;
    private static final int FIRST_POINTS = 6;
    private static final int MOST_SETS = 16;
    private static final int MOST_BUDGET = 5;
    private static final int MOST_ACTS = 12;
    private static final int MOST_BYTES = 400;
    private static final int MOST_SPREAD = 9;
    private static final int BOUND_LIMIT = 1000000000;
    private static final int FAULT_BASE = -4;
    private static final int UNSPREAD_BASE = -100;
    private static final int BLANK = 32;
    private static final int LINE_END = 10;

    private final Family now;
    private final Family spare;
    private final History past;
    private final Tape tape;
    private final Reader reader;
    private final Touch touch;
    private final Cover cover;
    private final Thinner thinner;
    private final Kernel kernels;
    private final Page page;

    public PetalSets() {
        now = new Family();
        spare = new Family();
        past = new History();
        tape = new Tape();
        reader = new Reader();
        touch = new Touch();
        cover = new Cover();
        thinner = new Thinner();
        kernels = new Kernel();
        page = new Page();
    }

    // ---- told

    public int feed(int a, int b, int c, int d, int e) {
        if (tape.length + 20 > MOST_BYTES) {
            return NONE;
        }
        tape.putFour(a);
        tape.putFour(b);
        tape.putFour(c);
        tape.putFour(d);
        tape.putFour(e);
        return tape.length;
    }

    public int back(int n) {
        if (n < 0 || n > tape.length) {
            return NONE;
        }
        tape.length -= n;
        return tape.length;
    }

    public int text() {
        int fault = reader.read(tape, spare);
        tape.length = 0;
        if (fault != NONE) {
            return FAULT_BASE - fault;
        }
        now.copyFrom(spare);
        past.forget();
        return now.size;
    }

    // ---- acts

    public int add(int set) {
        if (!now.isSet(set) || now.find(set) != NONE || now.size >= MOST_SETS) {
            return NONE;
        }
        past.keep(now);
        now.append(set);
        return now.size - 1;
    }

    public boolean drop(int i) {
        if (!now.holds(i)) {
            return false;
        }
        past.keep(now);
        now.takeOut(1 << i);
        return true;
    }

    public int change(int i, int set) {
        if (!now.holds(i) || !now.isSet(set) || now.find(set) != NONE) {
            return NONE;
        }
        int was = now.at(i);
        past.keep(now);
        now.row[i] = set;
        return was;
    }

    public int swap(int point, int other) {
        if (!now.isPoint(point) || !now.isPoint(other) || point == other) {
            return NONE;
        }
        int both = 1 << point | 1 << other;
        spare.startAnew(now.points);
        for (int i = 0; i < now.size; i++) {
            int set = now.at(i);
            boolean one = Integer.bitCount(set & both) == 1;
            spare.append(one ? set ^ both : set);
        }
        return becomeIfChanged();
    }

    public int without(int point) {
        if (!now.isPoint(point) || now.setsWith(1 << point) == 0) {
            return NONE;
        }
        spare.startAnew(now.points);
        for (int i = 0; i < now.size; i++) {
            spare.appendNew(now.at(i) & ~(1 << point));
        }
        become(spare);
        return now.size;
    }

    public int only(int point, boolean with) {
        if (!now.isPoint(point)) {
            return NONE;
        }
        int having = now.setsWith(1 << point);
        int go = with ? now.allSets() & ~having : having;
        return letGo(go);
    }

    public int join(int point, int other) {
        if (!now.isPoint(point) || !now.isPoint(other) || point == other) {
            return NONE;
        }
        if (now.setsWith(1 << other) == 0) {
            return NONE;
        }
        spare.startAnew(now.points);
        for (int i = 0; i < now.size; i++) {
            int set = now.at(i);
            boolean hasOther = (set >> other & 1) != 0;
            spare.appendNew(hasOther ? set & ~(1 << other) | 1 << point : set);
        }
        become(spare);
        return now.size;
    }

    public int turn() {
        spare.startAnew(now.points);
        for (int i = 0; i < now.size; i++) {
            int moved = now.at(i) << 1;
            int last = moved >> now.points & 1;
            spare.append(moved & now.allPoints() | last);
        }
        return becomeIfChanged();
    }

    public int flip() {
        if (now.size == 0) {
            return NONE;
        }
        spare.startAnew(now.points);
        for (int i = 0; i < now.size; i++) {
            spare.appendNew(now.allPoints() & ~now.at(i));
        }
        become(spare);
        return now.size;
    }

    public int reduce(int b) {
        if (!isBudget(b)) {
            return NONE;
        }
        kernels.run(now, b);
        if (kernels.lost) {
            return NOTHING;
        }
        // Every step leaves fewer sets, so only a kernel of no step is as the sets are.
        if (kernels.steps == 0) {
            return NONE;
        }
        become(kernels.sets);
        return now.size;
    }

    public int thin(int k) {
        if (!isFlowerSize(k)) {
            return NONE;
        }
        int stay = thinner.leastFree(now, k);
        return letGo(now.allSets() & ~stay);
    }

    public int undo() {
        if (past.depth == 0) {
            return NONE;
        }
        past.restore(now);
        return past.depth;
    }

    /** An act changes sets alone: the points stay those that the text told. */
    private void become(Family next) {
        past.keep(now);
        now.copySetsFrom(next);
    }

    /** For acts that move points about, after which spare has as many sets as now. */
    private int becomeIfChanged() {
        int changed = 0;
        for (int i = 0; i < now.size; i++) {
            if (now.at(i) != spare.at(i)) {
                changed++;
            }
        }
        if (changed == 0) {
            return NONE;
        }
        become(spare);
        return changed;
    }

    private int letGo(int sets) {
        if (sets == 0) {
            return NONE;
        }
        past.keep(now);
        now.takeOut(sets);
        return Integer.bitCount(sets);
    }

    private static boolean isBudget(int b) {
        return b >= 1 && b <= MOST_BUDGET;
    }

    private static boolean isFlowerSize(int k) {
        return k >= 2 && k <= MOST_SETS;
    }

    // ---- asked

    public int set(int i, int what) {
        if (!now.holds(i)) {
            return NONE;
        }
        int set = now.at(i);
        switch (what) {
            case 0:
                return set;
            case 1:
                return Integer.bitCount(set);
            case 2:
                return now.setsWith(set) & ~(1 << i);
            case 3:
                return now.setsMeeting(set) & ~(1 << i);
            default:
                return NONE;
        }
    }

    public int degree(int point) {
        if (!now.isPoint(point)) {
            return NONE;
        }
        return Integer.bitCount(now.setsWith(1 << point));
    }

    public int having(int points) {
        if (!now.arePoints(points)) {
            return NONE;
        }
        return now.setsWith(points);
    }

    // ---- sunflowers

    public int isFlower(int sets) {
        if (!now.areSets(sets)) {
            return NONE;
        }
        return Petals.coreOf(now, sets) == NOTHING ? 0 : 1;
    }

    public int core(int sets) {
        if (!now.areSets(sets)) {
            return NONE;
        }
        return Petals.coreOf(now, sets);
    }

    public int greatest(int what) {
        if (what < 0 || what > 2) {
            return NONE;
        }
        int sets = Petals.largest(now);
        if (sets == NONE) {
            return NOTHING;
        }
        if (what == 0) {
            return sets;
        }
        return what == 1 ? Integer.bitCount(sets) : Petals.coreOf(now, sets);
    }

    public int flower(int k) {
        if (!isFlowerSize(k)) {
            return NONE;
        }
        int sets = Petals.leastFlower(now, k);
        return sets == NONE ? NOTHING : sets;
    }

    public int flowers(int k) {
        if (!isFlowerSize(k)) {
            return NONE;
        }
        return Petals.countFlowers(now, k);
    }

    public int byCore(int points, int what) {
        if (!now.arePoints(points) || what < 0 || what > 1) {
            return NONE;
        }
        int sets = Petals.largestOf(now, points);
        if (sets == NONE) {
            return NOTHING;
        }
        return what == 0 ? Integer.bitCount(sets) : sets;
    }

    public int cores(int k) {
        if (!isFlowerSize(k)) {
            return NONE;
        }
        int found = 0;
        for (int i = 1; i < now.size; i++) {
            for (int j = 0; j < i; j++) {
                int meet = now.at(i) & now.at(j);
                if (Petals.isNewMeet(now, i, j) && Petals.leastClique(now, now.allSets(), meet, k) != NONE) {
                    found++;
                }
            }
        }
        return found;
    }

    public int most(int k) {
        if (!isFlowerSize(k)) {
            return NONE;
        }
        return thinner.leastFree(now, k);
    }

    public int surplus(int k) {
        if (!isFlowerSize(k)) {
            return NONE;
        }
        return now.size - Integer.bitCount(thinner.leastFree(now, k));
    }

    public int uneven(int sets) {
        if (!now.areSets(sets)) {
            return NONE;
        }
        if (Petals.coreOf(now, sets) == NOTHING) {
            return NOTHING;
        }
        // The petals lack the same core, so they differ in size just where their sets do;
        // and a pair that differs is first met with the flower's first set.
        int first = Integer.numberOfTrailingZeros(sets);
        int size = Integer.bitCount(now.at(first));
        for (int i = 0; i < now.size; i++) {
            if ((sets >> i & 1) != 0 && Integer.bitCount(now.at(i)) != size) {
                return 100 * first + i;
            }
        }
        return NOTHING;
    }

    public int pairs(int points) {
        if (points < 0 || points > MOST_POINTS) {
            return NONE;
        }
        int found = 0;
        for (int i = 1; i < now.size; i++) {
            for (int j = 0; j < i; j++) {
                if (Integer.bitCount(now.at(i) & now.at(j)) == points) {
                    found++;
                }
            }
        }
        return found;
    }

    public int parts() {
        int found = 0;
        int seen = 0;
        for (int i = 0; i < now.size; i++) {
            if ((seen >> i & 1) == 0) {
                found++;
                seen |= partOf(i);
            }
        }
        return found;
    }

    private int partOf(int i) {
        int part = 1 << i;
        // Each round but the last brings a set, so there are no more rounds than sets.
        for (int round = 0; round < now.size; round++) {
            int grown = part | now.setsMeeting(now.unionOf(part));
            if (grown == part) {
                break;
            }
            part = grown;
        }
        return part;
    }

    public int ranked(int k) {
        if (!now.isPoint(k)) {
            return NONE;
        }
        for (int point = 0; point < now.points; point++) {
            if (pointsAhead(point) == k) {
                return point;
            }
        }
        return NONE;
    }

    private int pointsAhead(int point) {
        int own = Integer.bitCount(now.setsWith(1 << point));
        int ahead = 0;
        for (int other = 0; other < now.points; other++) {
            int its = Integer.bitCount(now.setsWith(1 << other));
            if (its > own || its == own && other < point) {
                ahead++;
            }
        }
        return ahead;
    }

    // ---- spread, bounds

    public int spread(int p, int q) {
        if (p < 1 || p > MOST_SPREAD || q < 1 || q > MOST_SPREAD) {
            return NONE;
        }
        touch.fillLacking(now);
        int first = NONE;
        int least = MOST_POINTS + 1;
        for (int bits = 1; bits <= now.allPoints(); bits++) {
            int size = Integer.bitCount(bits);
            int having = touch.untouched(bits);
            if (size < least && having > 0 && having * power(p, size) > now.size * power(q, size)) {
                first = bits;
                least = size;
            }
        }
        return first == NONE ? 1 : UNSPREAD_BASE - first;
    }

    public int spreadest() {
        if (now.size == 0) {
            return NOTHING;
        }
        touch.fillLacking(now);
        // By 1 it is always spread; a set of points that forbids p forbids all above it, too.
        int p = MOST_SPREAD;
        for (int bits = 1; bits <= now.allPoints(); bits++) {
            while (p > 1 && touch.untouched(bits) * power(p, Integer.bitCount(bits)) > now.size) {
                p--;
            }
        }
        return p;
    }

    private static long power(int base, int exponent) {
        long product = 1;
        for (int i = 0; i < exponent; i++) {
            product *= base;
        }
        return product;
    }

    public int bound(int size, int k) {
        if (size < 1 || size > MOST_POINTS || !isFlowerSize(k)) {
            return NONE;
        }
        long product = 1;
        for (int i = 1; i <= size; i++) {
            product = Math.min(product * i * (k - 1), (long) BOUND_LIMIT);
        }
        return (int) product;
    }

    public int sized(int size) {
        if (size < 0 || size > MOST_POINTS) {
            return NONE;
        }
        int found = 0;
        for (int i = 0; i < now.size; i++) {
            if (Integer.bitCount(now.at(i)) == size) {
                found++;
            }
        }
        return found;
    }

    // ---- hitters

    public int hits(int points) {
        if (!now.arePoints(points)) {
            return NONE;
        }
        return now.setsMeeting(points) == now.allSets() ? 1 : 0;
    }

    public int missed(int points) {
        if (!now.arePoints(points)) {
            return NONE;
        }
        return now.allSets() & ~now.setsMeeting(points);
    }

    public int hitter(int what) {
        if (what < 0 || what > 3) {
            return NONE;
        }
        touch.fillHaving(now);
        touch.findLeast();
        switch (what) {
            case 0:
                return touch.fewest;
            case 1:
                return touch.first;
            case 2:
                return touch.ways;
            default:
                return touch.shared;
        }
    }

    public int tight(int k) {
        if (k < NONE) {
            return NONE;
        }
        touch.fillHaving(now);
        int seen = 0;
        for (int bits = 0; bits <= now.allPoints(); bits++) {
            if (touch.isTight(bits)) {
                if (seen == k) {
                    return bits;
                }
                seen++;
            }
        }
        return k == NONE ? seen : NOTHING;
    }

    public int greedy(int what) {
        if (what < 0 || what > 2) {
            return NONE;
        }
        int taken = 0;
        int first = NOTHING;
        int open = now.allSets();
        for (int round = 0; round < now.points && open != 0; round++) {
            int point = bestPoint(open);
            if (first == NOTHING) {
                first = point;
            }
            taken |= 1 << point;
            open &= ~now.setsWith(1 << point);
        }
        if (what == 0) {
            return Integer.bitCount(taken);
        }
        return what == 1 ? taken : first;
    }

    private int bestPoint(int open) {
        int best = 0;
        int most = 0;
        for (int point = 0; point < now.points; point++) {
            int its = Integer.bitCount(open & now.setsWith(1 << point));
            if (its > most) {
                best = point;
                most = its;
            }
        }
        return best;
    }

    public int apart(int what) {
        if (what < 0 || what > 1) {
            return NONE;
        }
        int sets = Petals.largestOf(now, 0);
        if (sets == NONE) {
            // No two sets are apart: one alone is, if there is one.
            sets = now.allSets() & 1;
        }
        return what == 0 ? Integer.bitCount(sets) : sets;
    }

    public int exact(int what) {
        if (what < 0 || what > 1) {
            return NONE;
        }
        cover.run(now);
        return what == 0 ? cover.ways : cover.least;
    }

    public int halves(int what) {
        if (what < 0 || what > 1) {
            return NONE;
        }
        touch.fillHaving(now);
        int found = 0;
        int first = NOTHING;
        int large = now.setsOfTwoOrMore();
        for (int bits = 0; bits <= now.allPoints(); bits++) {
            int cut = touch.touched(bits) & touch.touched(now.allPoints() & ~bits);
            if ((large & ~cut) == 0) {
                found++;
                if (first == NOTHING) {
                    first = bits;
                }
            }
        }
        return what == 0 ? found : first;
    }

    // ---- kernels

    public int kernel(int b, int what) {
        if (!isBudget(b) || what < 0 || what > 4) {
            return NONE;
        }
        kernels.run(now, b);
        switch (what) {
            case 0:
                return kernels.lost ? NOTHING : kernels.sets.size;
            case 1:
                return kernels.steps;
            case 2:
                return kernels.stepsOf(Kernel.WITHIN);
            case 3:
                return kernels.stepsOf(Kernel.FLOWER);
            default:
                return kernels.lost ? NOTHING : kernels.sets.unionOf(kernels.sets.allSets());
        }
    }

    public int kernelSet(int b, int k) {
        if (!isBudget(b) || k < 0) {
            return NONE;
        }
        kernels.run(now, b);
        if (kernels.lost) {
            return NOTHING;
        }
        return kernels.sets.holds(k) ? kernels.sets.at(k) : NONE;
    }

    public int step(int b, int k, int what) {
        if (!isBudget(b) || k < 0) {
            return NONE;
        }
        kernels.run(now, b);
        if (k >= kernels.steps) {
            return NONE;
        }
        switch (what) {
            case 0:
                return kernels.kind[k];
            case 1:
                return kernels.went[k];
            case 2:
                return kernels.came[k];
            case 3:
                return kernels.left[k];
            default:
                return NONE;
        }
    }

    public int can(int b) {
        if (b < 0 || b > MOST_POINTS) {
            return NONE;
        }
        touch.fillHaving(now);
        touch.findLeast();
        return touch.fewest <= b ? 1 : 0;
    }

    // ---- were

    public int link(int points, int what) {
        if (!now.arePoints(points) || what < 0 || what > 1) {
            return NONE;
        }
        spare.startAnew(now.points);
        for (int i = 0; i < now.size; i++) {
            if ((now.at(i) & points) == points) {
                spare.appendNew(now.at(i) & ~points);
            }
        }
        return what == 0 ? spare.size : largestSize(spare);
    }

    public int withSet(int set) {
        if (!now.isSet(set)) {
            return NONE;
        }
        spare.copyFrom(now);
        spare.appendNew(set);
        return largestSize(spare);
    }

    public int withoutSet(int i) {
        if (!now.holds(i)) {
            return NONE;
        }
        spare.copyFrom(now);
        spare.takeOut(1 << i);
        return largestSize(spare);
    }

    public int freeNext(int k) {
        if (!isFlowerSize(k)) {
            return NONE;
        }
        if (Petals.leastFlower(now, k) != NONE) {
            return NOTHING;
        }
        int first = NOTHING;
        int least = MOST_POINTS + 1;
        for (int set = 1; set <= now.allPoints(); set++) {
            int size = Integer.bitCount(set);
            if (size < least && now.find(set) == NONE && !Petals.closesFlower(now, set, k)) {
                first = set;
                least = size;
            }
        }
        return first;
    }

    private static int largestSize(Family family) {
        int sets = Petals.largest(family);
        return sets == NONE ? NOTHING : Integer.bitCount(sets);
    }

    // ---- texts

    public int spell(int i) {
        if (i < NONE) {
            return NONE;
        }
        page.length = 0;
        page.putWord("points ");
        page.putNumber(now.points);
        page.putWord(";");
        for (int j = 0; j < now.size; j++) {
            page.putWord("set ");
            page.putLetters(now.at(j));
            page.putWord(";");
        }
        return page.answer(i);
    }

    public int report(int b, int i) {
        if (!isBudget(b) || i < NONE) {
            return NONE;
        }
        kernels.run(now, b);
        page.length = 0;
        for (int k = 0; k < kernels.steps; k++) {
            kernels.tellStep(k, page);
        }
        if (kernels.lost) {
            page.putWord("lost;");
        } else {
            page.putWord("left ");
            page.putNumber(kernels.sets.size);
            page.putWord(";");
        }
        return page.answer(i);
    }

    public int count(int what) {
        switch (what) {
            case 0:
                return now.points;
            case 1:
                return now.size;
            case 2:
                return now.unionOf(now.allSets());
            case 3:
                return past.depth;
            case 4:
                return tape.length;
            case 5:
                return now.greatestSize();
            case 6:
                return now.leastSize();
            default:
                return NONE;
        }
    }

    /** Sets in their order, each as the bits of its points. */
    private static final class Family {
        // One place more than there may be sets: for a set that might come.
        final int[] row = new int[MOST_SETS + 1];
        int size = 0;
        int points = FIRST_POINTS;

        int at(int i) {
            return i >= 0 && i < row.length ? row[i] : 0;
        }

        int allPoints() {
            return (1 << points) - 1;
        }

        int allSets() {
            return (1 << size) - 1;
        }

        boolean isPoint(int point) {
            return point >= 0 && point < points;
        }

        boolean arePoints(int bits) {
            return bits >= 0 && bits <= allPoints();
        }

        boolean isSet(int bits) {
            return bits > 0 && bits <= allPoints();
        }

        boolean holds(int i) {
            return i >= 0 && i < size;
        }

        boolean areSets(int bits) {
            return bits >= 0 && bits <= allSets();
        }

        int find(int set) {
            for (int i = 0; i < size; i++) {
                if (row[i] == set) {
                    return i;
                }
            }
            return NONE;
        }

        int setsWith(int bits) {
            int sets = 0;
            for (int i = 0; i < size; i++) {
                if ((row[i] & bits) == bits) {
                    sets |= 1 << i;
                }
            }
            return sets;
        }

        int setsMeeting(int bits) {
            int sets = 0;
            for (int i = 0; i < size; i++) {
                if ((row[i] & bits) != 0) {
                    sets |= 1 << i;
                }
            }
            return sets;
        }

        int setsOfTwoOrMore() {
            int sets = 0;
            for (int i = 0; i < size; i++) {
                if (Integer.bitCount(row[i]) >= 2) {
                    sets |= 1 << i;
                }
            }
            return sets;
        }

        int unionOf(int sets) {
            int union = 0;
            for (int i = 0; i < size; i++) {
                if ((sets >> i & 1) != 0) {
                    union |= row[i];
                }
            }
            return union;
        }

        int greatestSize() {
            int found = NOTHING;
            for (int i = 0; i < size; i++) {
                found = Math.max(found, Integer.bitCount(row[i]));
            }
            return found;
        }

        int leastSize() {
            int found = MOST_POINTS;
            for (int i = 0; i < size; i++) {
                found = Math.min(found, Integer.bitCount(row[i]));
            }
            return size == 0 ? NOTHING : found;
        }

        void startAnew(int newPoints) {
            size = 0;
            points = newPoints;
        }

        void append(int set) {
            if (size < row.length) {
                row[size] = set;
                size++;
            }
        }

        void appendNew(int set) {
            if (set != 0 && find(set) == NONE) {
                append(set);
            }
        }

        void takeOut(int sets) {
            int stay = 0;
            for (int i = 0; i < size; i++) {
                if ((sets >> i & 1) == 0) {
                    row[stay] = row[i];
                    stay++;
                }
            }
            size = stay;
        }

        void copyFrom(Family other) {
            points = other.points;
            copySetsFrom(other);
        }

        void copySetsFrom(Family other) {
            size = 0;
            for (int i = 0; i < other.size; i++) {
                append(other.row[i]);
            }
        }

        boolean hasSameSetsAs(Family other) {
            if (size != other.size) {
                return false;
            }
            for (int i = 0; i < size; i++) {
                if (row[i] != other.row[i]) {
                    return false;
                }
            }
            return true;
        }
    }

    /** The families ahead of the latest acts, in a ring: the oldest gives way. */
    private static final class History {
        final int[] sizes = new int[MOST_ACTS];
        final int[] rows = new int[MOST_ACTS * MOST_SETS];
        int next = 0;
        int depth = 0;

        void forget() {
            depth = 0;
        }

        void keep(Family family) {
            sizes[next] = Math.min(family.size, MOST_SETS);
            for (int i = 0; i < sizes[next]; i++) {
                rows[next * MOST_SETS + i] = family.at(i);
            }
            next = (next + 1) % MOST_ACTS;
            depth = Math.min(depth + 1, MOST_ACTS);
        }

        void restore(Family family) {
            next = (next + MOST_ACTS - 1) % MOST_ACTS;
            depth = Math.max(depth - 1, 0);
            family.size = 0;
            for (int i = 0; i < sizes[next]; i++) {
                family.append(rows[next * MOST_SETS + i]);
            }
        }
    }

    private static final class Tape {
        final byte[] bytes = new byte[MOST_BYTES];
        int length = 0;

        void putFour(int four) {
            for (int shift = 24; shift >= 0; shift -= 8) {
                if (length < bytes.length) {
                    bytes[length] = (byte) (four >> shift);
                    length++;
                }
            }
        }

        /** Behind the last byte NONE, which can stand nowhere. */
        int at(int i) {
            return i >= 0 && i < length && i < bytes.length ? bytes[i] & 255 : NONE;
        }

        boolean isLetter(int i) {
            return at(i) >= 'a' && at(i) <= 'z';
        }

        boolean isDigit(int i) {
            return at(i) >= '0' && at(i) <= '9';
        }

        boolean isBlank(int i) {
            return at(i) == BLANK || at(i) == LINE_END;
        }
    }

    /** Reads a tape as a text; each part answers its fault, or NONE. */
    private static final class Reader {
        int place = 0;

        int read(Tape tape, Family into) {
            place = 0;
            into.startAnew(FIRST_POINTS);
            skipBlanks(tape);
            int fault = isWord(tape, "points") ? readPoints(tape, into) : NONE;
            skipBlanks(tape);
            for (int i = 0; i <= MOST_SETS && fault == NONE && place < tape.length; i++) {
                fault = readSet(tape, into);
                skipBlanks(tape);
            }
            return fault;
        }

        private int readPoints(Tape tape, Family into) {
            place += 6;
            if (!tape.isBlank(place)) {
                return place;
            }
            skipBlanks(tape);
            int first = place;
            if (!tape.isDigit(first)) {
                return first;
            }
            int value = 0;
            for (; place < tape.length && tape.isDigit(place); place++) {
                value = value * 10 + tape.at(place) - '0';
            }
            if (place - first > 2 || value < 1 || value > MOST_POINTS) {
                return first;
            }
            into.startAnew(value);
            return readEnd(tape);
        }

        private int readSet(Tape tape, Family into) {
            if (!isWord(tape, "set") || into.size >= MOST_SETS) {
                return place;
            }
            place += 3;
            if (!tape.isBlank(place)) {
                return place;
            }
            skipBlanks(tape);
            int first = place;
            int set = readLetters(tape, into);
            if (!into.isSet(set) || into.find(set) != NONE) {
                return first;
            }
            into.append(set);
            return readEnd(tape);
        }

        /** The points of the letters ahead, none without letters; NONE: one is twice there, or no point. */
        private int readLetters(Tape tape, Family into) {
            int set = 0;
            for (; place < tape.length && tape.isLetter(place); place++) {
                int point = tape.at(place) - 'a';
                if (!into.isPoint(point) || (set >> point & 1) != 0) {
                    return NONE;
                }
                set |= 1 << point;
            }
            return set;
        }

        private int readEnd(Tape tape) {
            skipBlanks(tape);
            if (tape.at(place) != ';') {
                return place;
            }
            place++;
            return NONE;
        }

        private void skipBlanks(Tape tape) {
            while (place < tape.length && tape.isBlank(place)) {
                place++;
            }
        }

        private boolean isWord(Tape tape, String word) {
            for (int i = 0; i < word.length(); i++) {
                if (tape.at(place + i) != word.charAt(i)) {
                    return false;
                }
            }
            return !tape.isLetter(place + word.length());
        }
    }

    /** Sunflowers: sets of which each two meet in just the core, a clique of such pairs. */
    private static final class Petals {

        /** NOTHING, if the sets are no sunflower. */
        static int coreOf(Family family, int sets) {
            int found = NOTHING;
            for (int i = 1; i < family.size; i++) {
                for (int j = 0; j < i; j++) {
                    if ((sets >> i & 1) != 0 && (sets >> j & 1) != 0) {
                        int meet = family.at(i) & family.at(j);
                        if (found != NOTHING && found != meet) {
                            return NOTHING;
                        }
                        found = meet;
                    }
                }
            }
            return found;
        }

        static int largest(Family family) {
            int best = NONE;
            // Any two sets or more of a sunflower are one, too: no size is left out below the greatest.
            for (int k = 2; k <= family.size; k++) {
                int sets = leastFlower(family, k);
                if (sets == NONE) {
                    break;
                }
                best = sets;
            }
            return best;
        }

        static int largestOf(Family family, int middle) {
            int best = NONE;
            for (int k = 2; k <= family.size; k++) {
                int sets = leastClique(family, family.allSets(), middle, k);
                if (sets == NONE) {
                    break;
                }
                best = sets;
            }
            return best;
        }

        /** The sunflower of k sets (2 or more) with the least bits, or NONE. */
        static int leastFlower(Family family, int k) {
            // Of as many sets those have the least bits whose highest is the least, then the next one.
            for (int i = k - 1; i < family.size; i++) {
                for (int j = k - 2; j < i; j++) {
                    int meet = family.at(i) & family.at(j);
                    int rest = fitting(family, family.at(i), family.at(j), (1 << j) - 1);
                    int others = leastClique(family, rest, meet, k - 2);
                    if (others != NONE) {
                        return others | 1 << i | 1 << j;
                    }
                }
            }
            return NONE;
        }

        static int countFlowers(Family family, int k) {
            int found = 0;
            for (int i = k - 1; i < family.size; i++) {
                for (int j = k - 2; j < i; j++) {
                    int meet = family.at(i) & family.at(j);
                    int rest = fitting(family, family.at(i), family.at(j), (1 << j) - 1);
                    found += countCliques(family, rest, meet, k - 2);
                }
            }
            return found;
        }

        /** Whether a set that there is not is with k - 1 (1 or more) of those that there are a sunflower. */
        static boolean closesFlower(Family family, int set, int k) {
            if (k == 2) {
                return family.size > 0;
            }
            for (int i = k - 2; i < family.size; i++) {
                int rest = fitting(family, set, family.at(i), (1 << i) - 1);
                if (leastClique(family, rest, set & family.at(i), k - 2) != NONE) {
                    return true;
                }
            }
            return false;
        }

        /** Whether no pair of sets ahead of this one meets in the same points. */
        static boolean isNewMeet(Family family, int high, int low) {
            int meet = family.at(high) & family.at(low);
            for (int i = 1; i <= high; i++) {
                for (int j = 0; j < i; j++) {
                    if (i == high && j >= low) {
                        return true;
                    }
                    if ((family.at(i) & family.at(j)) == meet) {
                        return false;
                    }
                }
            }
            return true;
        }

        /** The least bits of so many of the sets, each two of which meet in just the middle, or NONE. */
        private static int leastClique(Family family, int sets, int middle, int many) {
            if (many <= 0) {
                return 0;
            }
            if (Integer.bitCount(sets) < many) {
                return NONE;
            }
            if (many == 1) {
                return Integer.lowestOneBit(sets);
            }
            for (int i = many - 1; i < family.size; i++) {
                if ((sets >> i & 1) != 0) {
                    int rest = meetingIn(family, family.at(i), middle, sets & (1 << i) - 1);
                    int others = leastClique(family, rest, middle, many - 1);
                    if (others != NONE) {
                        return others | 1 << i;
                    }
                }
            }
            return NONE;
        }

        private static int countCliques(Family family, int sets, int middle, int many) {
            if (many <= 0) {
                return 1;
            }
            if (many == 1) {
                return Integer.bitCount(sets);
            }
            int found = 0;
            for (int i = many - 1; i < family.size; i++) {
                if ((sets >> i & 1) != 0) {
                    int rest = meetingIn(family, family.at(i), middle, sets & (1 << i) - 1);
                    found += countCliques(family, rest, middle, many - 1);
                }
            }
            return found;
        }

        /** Those of some sets that meet both of two others in just what these two meet in. */
        private static int fitting(Family family, int one, int two, int sets) {
            int middle = one & two;
            return meetingIn(family, one, middle, meetingIn(family, two, middle, sets));
        }

        private static int meetingIn(Family family, int set, int middle, int sets) {
            int found = 0;
            for (int i = 0; i < family.size && sets >> i != 0; i++) {
                if ((sets >> i & 1) != 0 && (family.row[i] & set) == middle) {
                    found |= 1 << i;
                }
            }
            return found;
        }
    }

    /** For each set of points the sets that one of them touches. */
    private static final class Touch {
        final int[] column = new int[MOST_POINTS];
        final int[] marks = new int[1 << MOST_POINTS];
        int allSets = 0;
        int allPoints = 0;
        int fewest = 0;
        int first = 0;
        int ways = 0;
        int shared = 0;

        /** A point touches the sets that have it. */
        void fillHaving(Family family) {
            for (int point = 0; point < column.length; point++) {
                column[point] = family.setsWith(1 << point);
            }
            fillMarks(family);
        }

        /** A point touches the sets that lack it, so that those untouched have all the points. */
        void fillLacking(Family family) {
            for (int point = 0; point < column.length; point++) {
                column[point] = family.allSets() & ~family.setsWith(1 << point);
            }
            fillMarks(family);
        }

        private void fillMarks(Family family) {
            allSets = family.allSets();
            allPoints = family.allPoints();
            marks[0] = 0;
            for (int bits = 1; bits <= allPoints && bits < marks.length; bits++) {
                int point = Integer.numberOfTrailingZeros(bits);
                if (point < column.length) {
                    marks[bits] = marks[bits & bits - 1] | column[point];
                }
            }
        }

        int touched(int bits) {
            return bits >= 0 && bits < marks.length ? marks[bits] : 0;
        }

        int untouched(int bits) {
            return Integer.bitCount(allSets & ~touched(bits));
        }

        boolean touchesAll(int bits) {
            return touched(bits) == allSets;
        }

        boolean isTight(int bits) {
            if (!touchesAll(bits)) {
                return false;
            }
            for (int point = 0; point < MOST_POINTS; point++) {
                if ((bits >> point & 1) != 0 && touchesAll(bits & ~(1 << point))) {
                    return false;
                }
            }
            return true;
        }

        void findLeast() {
            fewest = MOST_POINTS + 1;
            for (int bits = 0; bits <= allPoints; bits++) {
                int size = Integer.bitCount(bits);
                if (size <= fewest && touchesAll(bits)) {
                    if (size < fewest) {
                        fewest = size;
                        first = bits;
                        ways = 0;
                        shared = bits;
                    }
                    ways++;
                    shared &= bits;
                }
            }
        }
    }

    /** Rows of sets that are apart and together are all points that are in some set. */
    private static final class Cover {
        int ways = 0;
        int least = NOTHING;

        void run(Family family) {
            ways = 0;
            least = NOTHING;
            coverRest(family, family.unionOf(family.allSets()), 0, MOST_POINTS);
        }

        /** Each level covers the least point that is open, so there are no more levels than points. */
        private void coverRest(Family family, int open, int chosen, int levels) {
            if (open == 0) {
                ways++;
                least = least == NOTHING ? chosen : Math.min(least, chosen);
                return;
            }
            if (levels <= 0) {
                return;
            }
            int point = Integer.lowestOneBit(open);
            for (int i = 0; i < family.size; i++) {
                int set = family.at(i);
                if ((set & point) != 0 && (set & ~open) == 0) {
                    coverRest(family, open & ~set, chosen | 1 << i, levels - 1);
                }
            }
        }
    }

    /** The most sets of which no k are a sunflower. */
    private static final class Thinner {
        // How many of the first sets, by how many these are, can stay at most.
        final int[] best = new int[MOST_SETS + 1];
        // For each set and a later one the others that are a sunflower with both: the search asks for these all
        // the time, and always for a set with later ones.
        final int[] fits = new int[MOST_SETS * MOST_SETS];
        int size = 0;

        int leastFree(Family family, int k) {
            size = Math.min(family.size, MOST_SETS);
            fillFits(family);
            best[0] = 0;
            for (int i = 0; i < size; i++) {
                // One set more can bring one more at most, and only if it stays itself.
                boolean more = choose(k, i, 1 << i, best[i]) != NONE;
                best[i + 1] = more ? best[i] + 1 : best[i];
            }
            return choose(k, size, 0, best[size]);
        }

        private void fillFits(Family family) {
            for (int i = 0; i < size; i++) {
                for (int j = i + 1; j < size; j++) {
                    fits[i * MOST_SETS + j] = Petals.fitting(family, family.at(i), family.at(j), family.allSets());
                }
            }
        }

        /** The least bits of those chosen and so many more of the first sets that all are free, or NONE. */
        private int choose(int k, int firsts, int chosen, int many) {
            if (many <= 0) {
                return chosen;
            }
            if (firsts <= 0 || firsts > size || best[firsts] < many) {
                return NONE;
            }
            int i = firsts - 1;
            int lesser = choose(k, i, chosen, many);
            if (lesser != NONE) {
                return lesser;
            }
            if (closes(i, chosen, k - 1)) {
                return NONE;
            }
            return choose(k, i, chosen | 1 << i, many - 1);
        }

        /** Whether a set is with so many of some later ones a sunflower. */
        private boolean closes(int i, int sets, int many) {
            if (Integer.bitCount(sets) < many) {
                return false;
            }
            if (many <= 1) {
                return true;
            }
            for (int j = many - 1; j < size; j++) {
                if ((sets >> j & 1) != 0) {
                    int rest = sets & fits[i * MOST_SETS + j] & (1 << j) - 1;
                    if (closes(i, rest, many - 1)) {
                        return true;
                    }
                }
            }
            return false;
        }
    }

    /**
     * The steps from a family to its kernel, kept until another one is asked for. They hang on the sets alone,
     * so they are kept when a text tells the same sets of other points; the points of its families say nothing.
     */
    private static final class Kernel {
        static final int WITHIN = 0;
        static final int FLOWER = 1;

        final Family start = new Family();
        final Family sets = new Family();
        final int[] kind = new int[MOST_SETS];
        final int[] went = new int[MOST_SETS];
        final int[] came = new int[MOST_SETS];
        final int[] left = new int[MOST_SETS];
        int budget = 0;
        int steps = 0;
        boolean lost = false;

        void run(Family from, int b) {
            if (budget == b && start.hasSameSetsAs(from)) {
                return;
            }
            budget = b;
            steps = 0;
            lost = false;
            start.copySetsFrom(from);
            sets.copySetsFrom(from);
            boolean goesOn = true;
            // Every step leaves fewer sets.
            for (int i = 0; i < MOST_SETS && goesOn; i++) {
                goesOn = takeStep(b);
            }
        }

        private boolean takeStep(int b) {
            int outer = firstWithInner();
            if (outer != NONE) {
                sets.takeOut(1 << outer);
                noteStep(WITHIN, 1 << outer, NOTHING);
                return true;
            }
            int petals = Petals.leastFlower(sets, b + 1);
            if (petals == NONE) {
                return false;
            }
            int middle = Petals.coreOf(sets, petals);
            if (middle == 0) {
                lost = true;
                return false;
            }
            sets.takeOut(petals);
            sets.appendNew(middle);
            noteStep(FLOWER, petals, middle);
            return true;
        }

        private int firstWithInner() {
            for (int i = 0; i < sets.size; i++) {
                for (int j = 0; j < sets.size; j++) {
                    if (i != j && (sets.at(j) & ~sets.at(i)) == 0) {
                        return i;
                    }
                }
            }
            return NONE;
        }

        private void noteStep(int itsKind, int itsWent, int itsCame) {
            if (steps < MOST_SETS) {
                kind[steps] = itsKind;
                went[steps] = itsWent;
                came[steps] = itsCame;
                left[steps] = sets.size;
                steps++;
            }
        }

        int stepsOf(int itsKind) {
            int found = 0;
            for (int i = 0; i < steps; i++) {
                if (kind[i] == itsKind) {
                    found++;
                }
            }
            return found;
        }

        void tellStep(int k, Page page) {
            if (k < 0 || k >= steps) {
                return;
            }
            page.putWord(kind[k] == WITHIN ? "within" : "flower");
            for (int i = 0; i < MOST_SETS; i++) {
                if ((went[k] >> i & 1) != 0) {
                    page.putWord(" ");
                    page.putNumber(i);
                }
            }
            if (kind[k] == FLOWER) {
                page.putWord(" core ");
                page.putLetters(came[k]);
            }
            page.putWord(";");
        }
    }

    /** A text that is told byte by byte. */
    private static final class Page {
        // The longest text, fifteen flowers of two sets, has fewer than 450 bytes.
        final byte[] bytes = new byte[512];
        int length = 0;

        private void putByte(int letter) {
            if (length < bytes.length) {
                bytes[length] = (byte) letter;
                length++;
            }
        }

        void putWord(String word) {
            for (int i = 0; i < word.length(); i++) {
                putByte(word.charAt(i));
            }
        }

        /** Of numbers below 100. */
        void putNumber(int number) {
            if (number >= 10) {
                putByte('0' + number / 10 % 10);
            }
            putByte('0' + number % 10);
        }

        void putLetters(int set) {
            for (int point = 0; point < MOST_POINTS; point++) {
                if ((set >> point & 1) != 0) {
                    putByte('a' + point);
                }
            }
        }

        int answer(int i) {
            if (i < 0) {
                return length;
            }
            return i < length && i < bytes.length ? bytes[i] : NOTHING;
        }
    }
}
