import java.util.Arrays;

/**
 * Grains in pictures taken one after the other, their clumps and halos, the trees that the halos
 * make from picture to picture, and a splitting tree over the grains of each picture.
 */
public final class HaloTrees {
    public static final int NONE = -1, UNKNOWN = -1000000001, OUTSIDE = -1000000002, NOT = -1000000003, FULL = -1000000004;

    private static final int GRAINS = 24;
    private static final int MOST_PICTURES = 6;
    private static final int SIDE = 64;
    private static final int MOST_WEIGHT = 9;
    private static final int FIRST_LENGTH = 8;
    private static final int MOST_LENGTH = 40;
    private static final int FIRST_LEAST = 2;
    private static final int MOST_LEAST = 99;
    private static final int MOST_OTHER_LENGTH = 90;
    private static final int MOST_WAY = 9999;
    private static final int MOST_SEED = 999999;
    private static final int MOST_UNDONE = 8;
    private static final int IMAGES = 2;

    private final Field now;
    private final Past past;
    private final Field[] images;
    private final boolean[] kept;
    private final Forest forest;
    private final Clumping trial;
    private final SplittingTree tree;
    private final Lots lots;

    // Every row that a call works on is made here, so that no call makes an object.
    public HaloTrees() {
        now = new Field();
        past = new Past();
        images = new Field[IMAGES];
        for (int i = 0; i < IMAGES; i++) {
            images[i] = new Field();
        }
        kept = new boolean[IMAGES];
        forest = new Forest();
        trial = new Clumping();
        tree = new SplittingTree();
        lots = new Lots();
    }

    // ---- pictures

    public int picture() {
        if (now.pictures >= MOST_PICTURES) {
            return FULL;
        }
        remember();
        return now.addPicture();
    }

    public int drop() {
        if (now.pictures < 1) {
            return NOT;
        }
        remember();
        now.pictures--;
        return now.pictures;
    }

    public int put(int picture, int grain, int x, int y) {
        if (!isGrainOfPicture(picture, grain)) {
            return UNKNOWN;
        }
        if (!isOnField(x, y)) {
            return OUTSIDE;
        }
        remember();
        int was = now.isIn(picture, grain) ? 1 : 0;
        now.lay(picture, grain, x, y);
        return was;
    }

    public int lose(int picture, int grain) {
        if (!isGrainOfPicture(picture, grain)) {
            return UNKNOWN;
        }
        if (!now.isIn(picture, grain)) {
            return NOT;
        }
        remember();
        now.takeAway(picture, grain);
        return Integer.bitCount(now.grainsOf(picture));
    }

    public int weigh(int grain, int weight) {
        if (!isGrain(grain)) {
            return UNKNOWN;
        }
        if (!isBetween(weight, 1, MOST_WEIGHT)) {
            return OUTSIDE;
        }
        remember();
        int was = now.weight[grain];
        now.weight[grain] = weight;
        return was;
    }

    public int bound(int what, int v) {
        boolean inside = what == 0 && isBetween(v, 0, MOST_LENGTH) || what == 1 && isBetween(v, 1, MOST_LEAST);
        if (!inside) {
            return OUTSIDE;
        }
        remember();
        int was = what == 0 ? now.length : now.least;
        if (what == 0) {
            now.length = v;
        } else {
            now.least = v;
        }
        return was;
    }

    public int drift(int seed) {
        if (!isBetween(seed, 1, MOST_SEED)) {
            return OUTSIDE;
        }
        if (now.pictures >= MOST_PICTURES) {
            return FULL;
        }
        remember();
        int picture = now.addPicture();
        lots.begin(seed);
        for (int grain = 0; grain < GRAINS; grain++) {
            if (picture == 0) {
                lots.scatter(now, picture, grain);
            } else {
                lots.carryOn(now, picture, grain);
            }
        }
        return Integer.bitCount(now.grainsOf(picture));
    }

    public int undo() {
        if (past.count < 1) {
            return NOT;
        }
        past.bringBack(now);
        forest.fresh = false;
        return past.count;
    }

    public int told(int what) {
        switch (what) {
            case 0: return now.pictures;
            case 1: return now.length;
            case 2: return now.least;
            case 3: return forest.surveyed(now).countHalos();
            case 4: return forest.surveyed(now).countEnding();
            case 5: return forest.surveyed(now).countBeginning();
            case 6: return forest.surveyed(now).longestBranch();
            case 7: return past.count;
            default: return OUTSIDE;
        }
    }

    public int ofPicture(int picture, int what) {
        if (!isPicture(picture)) {
            return UNKNOWN;
        }
        switch (what) {
            case 0: return Integer.bitCount(now.grainsOf(picture));
            case 1: return now.grainsOf(picture);
            case 2: return forest.surveyed(now).clumpings[picture].links;
            case 3: return forest.surveyed(now).clumpings[picture].count;
            case 4: return forest.surveyed(now).halos[picture].count;
            case 5: return treeOf(picture).height;
            case 6: return treeOf(picture).top;
            case 7: return now.weightOf(now.grainsOf(picture));
            default: return OUTSIDE;
        }
    }

    public int grain(int picture, int grain, int what) {
        if (!isGrainOfPicture(picture, grain)) {
            return UNKNOWN;
        }
        boolean in = now.isIn(picture, grain);
        switch (what) {
            case 0: return in ? now.xOf(picture, grain) : NONE;
            case 1: return in ? now.yOf(picture, grain) : NONE;
            case 2: return forest.surveyed(now).clumpings[picture].clump[grain];
            case 3: return forest.surveyed(now).halos[picture].numberOf(grain);
            case 4: return Integer.bitCount(forest.surveyed(now).clumpings[picture].linked[grain]);
            case 5: return forest.surveyed(now).clumpings[picture].isHolding(grain) ? 1 : 0;
            case 6: return treeOf(picture).depthOf[grain];
            case 7: return now.weight[grain];
            default: return OUTSIDE;
        }
    }

    public int halo(int picture, int halo, int what) {
        if (!isHalo(picture, halo)) {
            return UNKNOWN;
        }
        Halos halos = forest.surveyed(now).halos[picture];
        switch (what) {
            case 0: return halos.grains[halo];
            case 1: return halos.weight[halo];
            case 2: return halos.goesOn[halo];
            case 3: return Integer.bitCount(halos.comesFrom[halo]);
            case 4: return halos.main[halo];
            case 5: return halos.branchLength[halo];
            case 6: return halos.weight[halo] - forest.weightOfMain(picture, halo);
            case 7: return strayed(picture, halo);
            default: return OUTSIDE;
        }
    }

    public int from(int picture, int halo) {
        if (!isHalo(picture, halo)) {
            return UNKNOWN;
        }
        return forest.surveyed(now).halos[picture].comesFrom[halo];
    }

    public int branch(int picture, int halo, int k) {
        if (!isHalo(picture, halo)) {
            return UNKNOWN;
        }
        if (k < 0) {
            return OUTSIDE;
        }
        return forest.surveyed(now).branchBack(picture, halo, k);
    }

    public int common(int picture, int halo, int next) {
        if (!isHalo(picture, halo) || !isHalo(picture + 1, next)) {
            return UNKNOWN;
        }
        Halos[] halos = forest.surveyed(now).halos;
        return now.weightOf(halos[picture].grains[halo] & halos[picture + 1].grains[next]);
    }

    // ---- the tree

    public int within(int picture, int x, int y, int w, int what) {
        if (!isPicture(picture)) {
            return UNKNOWN;
        }
        if (!isOnField(x, y) || !isBetween(w, 0, MOST_WAY)) {
            return OUTSIDE;
        }
        switch (what) {
            case 0: return Integer.bitCount(now.near(picture, x, y, w));
            case 1: return now.near(picture, x, y, w);
            case 2: return now.weightOf(now.near(picture, x, y, w));
            case 3: return treeOf(picture).countLookedAt(x, y, w);
            default: return OUTSIDE;
        }
    }

    public int nearest(int picture, int x, int y) {
        if (!isPicture(picture)) {
            return UNKNOWN;
        }
        if (!isOnField(x, y)) {
            return OUTSIDE;
        }
        int best = NONE;
        int bestWay = 0;
        for (int grain = 0; grain < GRAINS; grain++) {
            if (now.isIn(picture, grain)) {
                int way = now.way(picture, grain, x, y);
                if (best == NONE || way < bestWay) {
                    best = grain;
                    bestWay = way;
                }
            }
        }
        return best;
    }

    public int below(int picture, int grain, int side) {
        if (!isGrainOfPicture(picture, grain)) {
            return UNKNOWN;
        }
        switch (side) {
            case 0: return treeOf(picture).left[grain];
            case 1: return treeOf(picture).right[grain];
            default: return OUTSIDE;
        }
    }

    // ---- clumps

    public int steps(int picture, int grain, int other) {
        if (!isGrainOfPicture(picture, grain) || !isGrain(other)) {
            return UNKNOWN;
        }
        return forest.surveyed(now).clumpings[picture].countSteps(grain, other);
    }

    public int clumps(int picture, int length) {
        if (!isPicture(picture)) {
            return UNKNOWN;
        }
        if (!isBetween(length, 0, MOST_OTHER_LENGTH)) {
            return OUTSIDE;
        }
        return clumpedBy(picture, length).count;
    }

    public int join(int picture, int grain, int other) {
        if (!isGrainOfPicture(picture, grain) || !isGrain(other) || grain == other) {
            return UNKNOWN;
        }
        if (!now.isIn(picture, grain) || !now.isIn(picture, other)) {
            return NONE;
        }
        int low = 0;
        int high = MOST_OTHER_LENGTH;
        // The longest length joins any two places of the field, and a longer one never parts a clump.
        for (int round = 0; round < MOST_OTHER_LENGTH && low < high; round++) {
            int middle = (low + high) / 2;
            if (has(clumpedBy(picture, middle).clump[grain], other)) {
                high = middle;
            } else {
                low = middle + 1;
            }
        }
        return low;
    }

    // ---- images

    public int keep(int i) {
        if (!isImage(i)) {
            return UNKNOWN;
        }
        images[i].become(now);
        kept[i] = true;
        past.forget();
        return now.pictures;
    }

    public int goBack(int i) {
        if (!isImage(i)) {
            return UNKNOWN;
        }
        if (!kept[i]) {
            return NOT;
        }
        now.become(images[i]);
        forest.fresh = false;
        past.forget();
        return now.pictures;
    }

    private boolean isPicture(int picture) {
        return picture >= 0 && picture < now.pictures;
    }

    private boolean isGrainOfPicture(int picture, int grain) {
        return isPicture(picture) && isGrain(grain);
    }

    private boolean isHalo(int picture, int halo) {
        return isPicture(picture) && halo >= 0 && halo < forest.surveyed(now).halos[picture].count;
    }

    private static boolean isGrain(int grain) {
        return isBetween(grain, 0, GRAINS - 1);
    }

    private static boolean isImage(int i) {
        return isBetween(i, 0, IMAGES - 1);
    }

    private static boolean isOnField(int x, int y) {
        return isBetween(x, 0, SIDE - 1) && isBetween(y, 0, SIDE - 1);
    }

    private static boolean isBetween(int v, int low, int high) {
        return v >= low && v <= high;
    }

    private static boolean has(int set, int member) {
        return (set >> member & 1) != 0;
    }

    // Stands ahead of every change that can be undone, and of no other.
    private void remember() {
        past.take(now);
        forest.fresh = false;
    }

    private Clumping clumpedBy(int picture, int length) {
        trial.link(now, picture, length);
        trial.gatherClumps(now.grainsOf(picture));
        return trial;
    }

    private SplittingTree treeOf(int picture) {
        tree.build(now, picture);
        return tree;
    }

    private int strayed(int picture, int halo) {
        if (picture + 1 >= now.pictures) {
            return 0;
        }
        Halos[] halos = forest.surveyed(now).halos;
        int there = halos[picture].grains[halo] & now.grainsOf(picture + 1);
        int goesOn = halos[picture].goesOn[halo];
        int together = goesOn == NONE ? 0 : halos[picture + 1].grains[goesOn];
        return now.weightOf(there & ~together);
    }

    /** All of the document's section 1: what is undone and what images keep. */
    private static final class Field {
        int pictures = 0;
        int length = FIRST_LENGTH;
        int least = FIRST_LEAST;
        final int[] weight = new int[GRAINS];
        // For each grain of each picture NONE, or X times SIDE and Y.
        final int[] place = new int[MOST_PICTURES * GRAINS];

        Field() {
            Arrays.fill(weight, 1);
            Arrays.fill(place, NONE);
        }

        void become(Field other) {
            pictures = other.pictures;
            length = other.length;
            least = other.least;
            System.arraycopy(other.weight, 0, weight, 0, GRAINS);
            System.arraycopy(other.place, 0, place, 0, MOST_PICTURES * GRAINS);
        }

        // A picture that was dropped leaves its grains behind, so the new one is emptied.
        int addPicture() {
            int picture = pictures;
            for (int grain = 0; grain < GRAINS; grain++) {
                takeAway(picture, grain);
            }
            pictures++;
            return picture;
        }

        void lay(int picture, int grain, int x, int y) {
            place[picture * GRAINS + grain] = x * SIDE + y;
        }

        void takeAway(int picture, int grain) {
            place[picture * GRAINS + grain] = NONE;
        }

        boolean isIn(int picture, int grain) {
            return place[picture * GRAINS + grain] != NONE;
        }

        int xOf(int picture, int grain) {
            return place[picture * GRAINS + grain] / SIDE;
        }

        int yOf(int picture, int grain) {
            return place[picture * GRAINS + grain] % SIDE;
        }

        int way(int picture, int grain, int x, int y) {
            int dx = xOf(picture, grain) - x;
            int dy = yOf(picture, grain) - y;
            return dx * dx + dy * dy;
        }

        int grainsOf(int picture) {
            int set = 0;
            for (int grain = 0; grain < GRAINS; grain++) {
                if (isIn(picture, grain)) {
                    set |= 1 << grain;
                }
            }
            return set;
        }

        int near(int picture, int x, int y, int w) {
            int set = 0;
            for (int grain = 0; grain < GRAINS; grain++) {
                if (isIn(picture, grain) && way(picture, grain, x, y) <= w) {
                    set |= 1 << grain;
                }
            }
            return set;
        }

        int weightOf(int set) {
            int sum = 0;
            for (int grain = 0; grain < GRAINS; grain++) {
                if (has(set, grain)) {
                    sum += weight[grain];
                }
            }
            return sum;
        }
    }

    /** What was so ahead of the latest changes, in a ring in which the oldest gives way. */
    private static final class Past {
        final Field[] ring = new Field[MOST_UNDONE];
        int oldest = 0;
        int count = 0;

        Past() {
            for (int i = 0; i < MOST_UNDONE; i++) {
                ring[i] = new Field();
            }
        }

        void take(Field now) {
            if (count == MOST_UNDONE) {
                oldest = (oldest + 1) % MOST_UNDONE;
                count--;
            }
            ring[(oldest + count) % MOST_UNDONE].become(now);
            count++;
        }

        void bringBack(Field now) {
            if (count > 0) {
                count--;
                now.become(ring[(oldest + count) % MOST_UNDONE]);
            }
        }

        void forget() {
            count = 0;
        }
    }

    /** The links and clumps of one picture by one length. */
    private static final class Clumping {
        int links = 0;
        int count = 0;
        final int[] linked = new int[GRAINS];
        final int[] clump = new int[GRAINS];

        void link(Field field, int picture, int length) {
            links = 0;
            Arrays.fill(linked, 0);
            for (int grain = 0; grain < GRAINS; grain++) {
                if (field.isIn(picture, grain)) {
                    linkToLesser(field, picture, grain, length * length);
                }
            }
        }

        private void linkToLesser(Field field, int picture, int grain, int mostWay) {
            int x = field.xOf(picture, grain);
            int y = field.yOf(picture, grain);
            for (int lesser = 0; lesser < grain; lesser++) {
                if (field.isIn(picture, lesser) && field.way(picture, lesser, x, y) <= mostWay) {
                    linked[grain] |= 1 << lesser;
                    linked[lesser] |= 1 << grain;
                    links++;
                }
            }
        }

        void gatherClumps(int there) {
            count = 0;
            Arrays.fill(clump, 0);
            for (int grain = 0; grain < GRAINS; grain++) {
                if (has(there, grain) && clump[grain] == 0) {
                    tellMembers(reachedFrom(grain, there));
                    count++;
                }
            }
        }

        private void tellMembers(int set) {
            for (int grain = 0; grain < GRAINS; grain++) {
                if (has(set, grain)) {
                    clump[grain] = set;
                }
            }
        }

        private int reachedFrom(int start, int among) {
            int reached = 1 << start;
            int edge = reached;
            for (int round = 0; round < GRAINS && edge != 0; round++) {
                edge = linkedToAny(edge) & among & ~reached;
                reached |= edge;
            }
            return reached;
        }

        private int linkedToAny(int set) {
            int all = 0;
            for (int grain = 0; grain < GRAINS; grain++) {
                if (has(set, grain)) {
                    all |= linked[grain];
                }
            }
            return all;
        }

        int countSteps(int grain, int other) {
            if (!has(clump[grain], other)) {
                return NONE;
            }
            int reached = 1 << grain;
            int far = 0;
            while (far < GRAINS && !has(reached, other)) {
                reached |= linkedToAny(reached);
                far++;
            }
            return far;
        }

        boolean isHolding(int grain) {
            int others = clump[grain] & ~(1 << grain);
            for (int start = 0; start < GRAINS; start++) {
                if (has(others, start)) {
                    return reachedFrom(start, others) != others;
                }
            }
            return false;
        }
    }

    /** The halos of one picture, by number, and how they hang with those ahead and behind. */
    private static final class Halos {
        int count = 0;
        final int[] grains = new int[GRAINS];
        final int[] weight = new int[GRAINS];
        final int[] goesOn = new int[GRAINS];
        final int[] comesFrom = new int[GRAINS];
        final int[] main = new int[GRAINS];
        final int[] branchLength = new int[GRAINS];

        void gather(Field field, Clumping clumping) {
            count = 0;
            for (int grain = 0; grain < GRAINS; grain++) {
                int set = clumping.clump[grain];
                boolean isLeastOfClump = has(set, grain) && (set & ((1 << grain) - 1)) == 0;
                if (isLeastOfClump) {
                    int sum = field.weightOf(set);
                    if (sum >= field.least) {
                        insert(set, sum);
                    }
                }
            }
        }

        // Clumps come by their least grain, so one goes behind those of its own weight.
        private void insert(int set, int sum) {
            if (count >= GRAINS) {
                return;
            }
            int at = count;
            while (at > 0 && weight[at - 1] < sum) {
                grains[at] = grains[at - 1];
                weight[at] = weight[at - 1];
                at--;
            }
            grains[at] = set;
            weight[at] = sum;
            count++;
        }

        int numberOf(int grain) {
            for (int halo = 0; halo < count; halo++) {
                if (has(grains[halo], grain)) {
                    return halo;
                }
            }
            return NONE;
        }

        void goOnNowhere() {
            Arrays.fill(goesOn, NONE);
        }

        void goOnIn(Field field, Halos next) {
            for (int halo = 0; halo < count; halo++) {
                goesOn[halo] = next.withMostOf(field, grains[halo]);
            }
        }

        private int withMostOf(Field field, int set) {
            int best = NONE;
            int most = 0;
            for (int halo = 0; halo < count; halo++) {
                int both = grains[halo] & set;
                int sum = both == 0 ? 0 : field.weightOf(both);
                if (sum > most) {
                    best = halo;
                    most = sum;
                }
            }
            return best;
        }

        void comeFromNowhere() {
            Arrays.fill(comesFrom, 0);
            Arrays.fill(main, NONE);
            Arrays.fill(branchLength, 1);
        }

        void comeFromThose(Halos ahead) {
            for (int halo = 0; halo < ahead.count; halo++) {
                int into = ahead.goesOn[halo];
                if (into != NONE) {
                    // Numbers begin at the heaviest, so the first that comes is the main one.
                    if (main[into] == NONE) {
                        main[into] = halo;
                        branchLength[into] = ahead.branchLength[halo] + 1;
                    }
                    comesFrom[into] |= 1 << halo;
                }
            }
        }
    }

    /** Clumps and halos of all pictures; fresh as long as the field has not changed since. */
    private static final class Forest {
        boolean fresh = false;
        int pictures = 0;
        final Clumping[] clumpings = new Clumping[MOST_PICTURES];
        final Halos[] halos = new Halos[MOST_PICTURES];

        Forest() {
            for (int picture = 0; picture < MOST_PICTURES; picture++) {
                clumpings[picture] = new Clumping();
                halos[picture] = new Halos();
            }
        }

        Forest surveyed(Field field) {
            if (fresh) {
                return this;
            }
            pictures = field.pictures;
            for (int picture = 0; picture < pictures; picture++) {
                clumpings[picture].link(field, picture, field.length);
                clumpings[picture].gatherClumps(field.grainsOf(picture));
                halos[picture].gather(field, clumpings[picture]);
                halos[picture].goOnNowhere();
                halos[picture].comeFromNowhere();
            }
            for (int picture = 1; picture < pictures; picture++) {
                halos[picture - 1].goOnIn(field, halos[picture]);
                halos[picture].comeFromThose(halos[picture - 1]);
            }
            fresh = true;
            return this;
        }

        int branchBack(int picture, int halo, int k) {
            if (k >= halos[picture].branchLength[halo]) {
                return NONE;
            }
            int at = halo;
            for (int back = 0; back < k && back < picture && at != NONE; back++) {
                at = halos[picture - back].main[at];
            }
            return at;
        }

        int weightOfMain(int picture, int halo) {
            int main = halos[picture].main[halo];
            return main == NONE || picture < 1 ? 0 : halos[picture - 1].weight[main];
        }

        int countHalos() {
            int sum = 0;
            for (int picture = 0; picture < pictures; picture++) {
                sum += halos[picture].count;
            }
            return sum;
        }

        int countEnding() {
            int sum = 0;
            for (int picture = 0; picture < pictures - 1; picture++) {
                for (int halo = 0; halo < halos[picture].count; halo++) {
                    sum += halos[picture].goesOn[halo] == NONE ? 1 : 0;
                }
            }
            return sum;
        }

        int countBeginning() {
            int sum = 0;
            for (int picture = 1; picture < pictures; picture++) {
                for (int halo = 0; halo < halos[picture].count; halo++) {
                    sum += halos[picture].comesFrom[halo] == 0 ? 1 : 0;
                }
            }
            return sum;
        }

        int longestBranch() {
            int longest = 0;
            for (int picture = 0; picture < pictures; picture++) {
                for (int halo = 0; halo < halos[picture].count; halo++) {
                    longest = Math.max(longest, halos[picture].branchLength[halo]);
                }
            }
            return longest;
        }
    }

    /** The balanced tree over one picture's grains, split by X and Y by turns. */
    private static final class SplittingTree {
        int top = NONE;
        int height = 0;
        final int[] left = new int[GRAINS];
        final int[] right = new int[GRAINS];
        final int[] depthOf = new int[GRAINS];
        final int[] order = new int[GRAINS];
        final int[] x = new int[GRAINS];
        final int[] y = new int[GRAINS];

        void build(Field field, int picture) {
            Arrays.fill(left, NONE);
            Arrays.fill(right, NONE);
            Arrays.fill(depthOf, NONE);
            height = 0;
            int count = 0;
            for (int grain = 0; grain < GRAINS; grain++) {
                if (field.isIn(picture, grain)) {
                    x[grain] = field.xOf(picture, grain);
                    y[grain] = field.yOf(picture, grain);
                    order[count] = grain;
                    count++;
                }
            }
            top = split(this, 0, count, 0);
        }

        // Static, and so is lookedAtFrom: LANGUAGE.md, rule 8, names a private static method as one that may call itself.
        private static int split(SplittingTree tree, int first, int end, int depth) {
            if (first >= end || depth >= GRAINS) {
                return NONE;
            }
            tree.sort(first, end, depth);
            int middle = first + (end - first) / 2;
            int knot = tree.order[middle];
            tree.depthOf[knot] = depth;
            tree.height = Math.max(tree.height, depth + 1);
            tree.left[knot] = split(tree, first, middle, depth + 1);
            tree.right[knot] = split(tree, middle + 1, end, depth + 1);
            return knot;
        }

        private void sort(int first, int end, int depth) {
            for (int next = first + 1; next < end; next++) {
                int grain = order[next];
                int rank = rankOf(grain, depth);
                int at = next;
                while (at > first && rankOf(order[at - 1], depth) > rank) {
                    order[at] = order[at - 1];
                    at--;
                }
                order[at] = grain;
            }
        }

        private int rankOf(int grain, int depth) {
            boolean byX = depth % 2 == 0;
            int major = byX ? x[grain] : y[grain];
            int minor = byX ? y[grain] : x[grain];
            return (major * SIDE + minor) * GRAINS + grain;
        }

        int countLookedAt(int atX, int atY, int w) {
            return lookedAtFrom(this, top, atX, atY, w, 0);
        }

        private static int lookedAtFrom(SplittingTree tree, int knot, int atX, int atY, int w, int depth) {
            if (knot == NONE || depth >= GRAINS) {
                return 0;
            }
            int d = depth % 2 == 0 ? atX - tree.x[knot] : atY - tree.y[knot];
            boolean close = d * d <= w;
            int count = 1;
            if (d <= 0 || close) {
                count += lookedAtFrom(tree, tree.left[knot], atX, atY, w, depth + 1);
            }
            if (d >= 0 || close) {
                count += lookedAtFrom(tree, tree.right[knot], atX, atY, w, depth + 1);
            }
            return count;
        }
    }

    /** The numbers by which a picture by lots comes about. */
    private static final class Lots {
        long latest = 1;

        void begin(int seed) {
            latest = seed;
        }

        private int draw() {
            latest = latest * 16807 % 2147483647;
            return (int) latest;
        }

        void scatter(Field field, int picture, int grain) {
            if (draw() % 4 != 0) {
                layAnywhere(field, picture, grain);
            }
        }

        void carryOn(Field field, int picture, int grain) {
            boolean was = field.isIn(picture - 1, grain);
            boolean changes = draw() % 16 == 0;
            if (was && !changes) {
                int x = shifted(field.xOf(picture - 1, grain));
                int y = shifted(field.yOf(picture - 1, grain));
                field.lay(picture, grain, x, y);
            }
            if (!was && changes) {
                layAnywhere(field, picture, grain);
            }
        }

        private void layAnywhere(Field field, int picture, int grain) {
            int x = draw() % SIDE;
            int y = draw() % SIDE;
            field.lay(picture, grain, x, y);
        }

        private int shifted(int was) {
            return Math.max(0, Math.min(SIDE - 1, was + draw() % 7 - 3));
        }
    }
}
