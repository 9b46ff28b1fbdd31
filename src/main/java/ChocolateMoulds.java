/** Chocolate moulds by temper. What each method promises stands in ../shared/DOC.md. */
public final class ChocolateMoulds {
    private static final int MOST_BOWLS = 5;
    private static final int MOST_SLABS = 8;
    private static final int MOST_BOXES = 6;
    private static final int MOST_GRAMS = 2000;
    private static final int GRAMS_OF_A_SQUARE = 10;
    private static final int LONGEST_SIDE = 6;
    private static final int MOST_SQUARES = LONGEST_SIDE * LONGEST_SIDE;
    private static final int COOLEST = 15;
    private static final int HOTTEST = 50;
    private static final int MOST_TEMPER = 100;
    private static final int NONE = -1;

    /** The rows are packed: the places from the count on hold null. */
    private final Bowl[] bowls;
    private final Slab[] slabs;
    private final Box[] boxes;
    private int bowlCount;
    private int slabCount;
    private int boxCount;
    private int day;

    /** Rows for trying out, kept so that no call has to make them anew. */
    private final Crystals firstTrial;
    private final Crystals secondTrial;
    private final int[] slabForBox;
    private final boolean[] isPlanned;

    public ChocolateMoulds() {
        bowls = new Bowl[MOST_BOWLS];
        slabs = new Slab[MOST_SLABS];
        boxes = new Box[MOST_BOXES];
        firstTrial = new Crystals();
        secondTrial = new Crystals();
        slabForBox = new int[MOST_BOXES];
        isPlanned = new boolean[MOST_SLABS];
    }

    // ---- bowls

    public int bowl(int grams) throws IllegalArgumentException, IllegalStateException {
        if (grams < 0 || grams > MOST_GRAMS) {
            throw new IllegalArgumentException("grams are 0 to 2000");
        }
        int number = bowlCount;
        if (number >= MOST_BOWLS) {
            throw new IllegalStateException("there are 5 bowls");
        }
        bowls[number] = new Bowl(grams);
        bowlCount = number + 1;
        return number;
    }

    public int warm(int bowl, int warmth, int turns) throws IndexOutOfBoundsException, IllegalArgumentException {
        Bowl warmed = bowlAt(bowl);
        checkWarming(warmth, turns);
        warmed.warmth = warmth;
        warmed.crystals.keepAt(warmth, turns);
        return warmed.crystals.temper();
    }

    public int seed(int bowl, int many) throws IndexOutOfBoundsException, IllegalArgumentException {
        Bowl seeded = bowlAt(bowl);
        if (many < 1 || many > 30) {
            throw new IllegalArgumentException("seed is 1 to 30 crystals");
        }
        seeded.crystals.increase(Crystals.WANTED, many);
        return seeded.crystals.many[Crystals.WANTED];
    }

    public int pour(int from, int into) throws IndexOutOfBoundsException, IllegalArgumentException {
        Bowl poured = bowlAt(from);
        Bowl filled = bowlAt(into);
        int grams = poured.grams + filled.grams;
        if (from == into || grams == 0 || grams > MOST_GRAMS) {
            throw new IllegalArgumentException("two bowls of 1 to 2000 grams together are wanted");
        }
        filled.takeIn(poured);
        return filled.grams;
    }

    // ---- slabs and boxes

    public int cast(int bowl, int w, int h)
            throws IndexOutOfBoundsException, IllegalArgumentException, IllegalStateException {
        Bowl source = bowlAt(bowl);
        if (w < 1 || w > LONGEST_SIDE || h < 1 || h > LONGEST_SIDE) {
            throw new IllegalArgumentException("columns and rows are 1 to 6");
        }
        Slab slab = new Slab(w, h, source.crystals.temper());
        if (source.grams < slab.grams()) {
            throw new IllegalStateException("the bowl has not so many grams");
        }
        int number = addSlab(slab);
        source.grams -= slab.grams();
        return number;
    }

    public int polish(int slab) throws IndexOutOfBoundsException {
        Slab polished = slabAt(slab);
        polished.bloom = polished.bloomBehindPolish();
        return polished.bloom;
    }

    public int split(int slab, int at, boolean rows) throws IndexOutOfBoundsException, IllegalStateException {
        Slab first = slabAt(slab);
        int side = rows ? first.rows : first.columns;
        if (at < 1 || at >= side) {
            throw new IndexOutOfBoundsException("no such groove");
        }
        int number = addSlab(first.partBehind(at, rows));
        first.cutDownTo(at, rows);
        return number;
    }

    public int melt(int slab, int bowl) throws IndexOutOfBoundsException, IllegalArgumentException {
        int grams = slabAt(slab).grams();
        Bowl target = bowlAt(bowl);
        if (target.grams + grams > MOST_GRAMS) {
            throw new IllegalArgumentException("the bowl would have more than 2000 grams");
        }
        target.grams += grams;
        slabs[slab] = null;
        closeGaps();
        return target.grams;
    }

    public int box(int squares, int temper) throws IllegalArgumentException, IllegalStateException {
        if (squares < 1 || squares > MOST_SQUARES || temper < 0 || temper > MOST_TEMPER) {
            throw new IllegalArgumentException("squares are 1 to 36, a temper is 0 to 100");
        }
        int number = boxCount;
        if (number >= MOST_BOXES) {
            throw new IllegalStateException("there are 6 boxes");
        }
        boxes[number] = new Box(squares, temper);
        boxCount = number + 1;
        return number;
    }

    public int fill() {
        int filled = planFilling(NONE);
        for (int number = 0; number < MOST_BOXES; number++) {
            moveIntoBox(slabForBox[number], boxes[number]);
        }
        closeGaps();
        return filled;
    }

    // ---- days

    public int pass(int room, int days) throws IllegalArgumentException {
        checkRoom(room);
        if (days < 1 || days > 60) {
            throw new IllegalArgumentException("days are 1 to 60");
        }
        for (Slab slab : slabs) {
            if (slab != null) {
                slab.standFor(days, room);
            }
        }
        day += days;
        return bloomedSlabs();
    }

    // ---- what there is

    public int told(int bowl, int what) throws IndexOutOfBoundsException {
        Bowl asked = bowlAt(bowl);
        checkWhat(what, 7);
        if (what == 0) {
            return asked.grams;
        }
        if (what <= Crystals.SORTS) {
            return asked.crystals.many[what];
        }
        return what == 6 ? asked.warmth : asked.crystals.temper();
    }

    public int about(int slab, int what) throws IndexOutOfBoundsException {
        Slab asked = slabAt(slab);
        checkWhat(what, 6);
        switch (what) {
            case 0:
                return asked.columns;
            case 1:
                return asked.rows;
            case 2:
                return asked.temper;
            case 3:
                return asked.bloom;
            case 4:
                return asked.age;
            case 5:
                return asked.squares();
            default:
                return firstEmptyBoxFor(asked);
        }
    }

    public int order(int box, int what) throws IndexOutOfBoundsException {
        Box asked = boxAt(box);
        checkWhat(what, 4);
        switch (what) {
            case 0:
                return asked.squares;
            case 1:
                return asked.temper;
            case 2:
                return asked.isFilled ? 1 : 0;
            case 3:
                return asked.slabTemper;
            default:
                return asked.slabBloom;
        }
    }

    public int count(int what) throws IndexOutOfBoundsException {
        checkWhat(what, 7);
        switch (what) {
            case 0:
                return day;
            case 1:
                return bowlCount;
            case 2:
                return slabCount;
            case 3:
                return boxCount;
            case 4:
                return filledBoxes();
            case 5:
                return gramsOfBowls();
            case 6:
                return squaresOfSlabs();
            default:
                return bloomedSlabs();
        }
    }

    // ---- what would be

    public int would(int bowl, int warmth, int turns) throws IndexOutOfBoundsException, IllegalArgumentException {
        Bowl asked = bowlAt(bowl);
        checkWarming(warmth, turns);
        firstTrial.becomeLike(asked.crystals);
        firstTrial.keepAt(warmth, turns);
        return firstTrial.temper();
    }

    public int best(int bowl, int turns, int what) throws IndexOutOfBoundsException, IllegalArgumentException {
        Bowl asked = bowlAt(bowl);
        checkWhat(what, 2);
        if (turns < 1 || turns > 10) {
            throw new IllegalArgumentException("turns are 1 to 10");
        }
        int bestFirst = NONE;
        int bestSecond = NONE;
        int bestTemper = NONE;
        // No later pair can better the greatest temper that there is, so the search rests at it.
        for (int first = COOLEST; first <= HOTTEST && bestTemper < MOST_TEMPER; first++) {
            firstTrial.becomeLike(asked.crystals);
            firstTrial.keepAt(first, turns);
            for (int second = COOLEST; second <= HOTTEST && bestTemper < MOST_TEMPER; second++) {
                secondTrial.becomeLike(firstTrial);
                secondTrial.keepAt(second, turns);
                int temper = secondTrial.temper();
                if (temper > bestTemper) {
                    bestFirst = first;
                    bestSecond = second;
                    bestTemper = temper;
                }
            }
        }
        if (what == 0) {
            return bestFirst;
        }
        return what == 1 ? bestSecond : bestTemper;
    }

    public int until(int slab, int room) throws IndexOutOfBoundsException, IllegalArgumentException {
        Slab asked = slabAt(slab);
        checkRoom(room);
        if (asked.isBloomed()) {
            return 0;
        }
        int daily = asked.bloomOfADay(room);
        if (daily <= 0) {
            return NONE;
        }
        return (Slab.FAIR_BLOOM - asked.bloom) / daily + 1;
    }

    public int advise() {
        int advised = NONE;
        int most = planFilling(NONE);
        for (int slab = 0; slab < slabCount; slab++) {
            int filled = planFilling(slab);
            if (filled > most) {
                advised = slab;
                most = filled;
            }
        }
        return advised;
    }

    public double mean() {
        int bloom = 0;
        for (Slab slab : slabs) {
            if (slab != null) {
                bloom += slab.bloom;
            }
        }
        return slabCount <= 0 ? 0.0 : (double) bloom / slabCount;
    }

    public long digest() {
        long d = 1789;
        for (int what = 0; what <= 7; what++) {
            d = d * 31 + count(what);
        }
        for (int bowl = 0; bowl < bowlCount; bowl++) {
            for (int what = 0; what <= 7; what++) {
                d = d * 31 + told(bowl, what);
            }
        }
        for (int slab = 0; slab < slabCount; slab++) {
            for (int what = 0; what <= 6; what++) {
                d = d * 31 + about(slab, what);
            }
        }
        for (int box = 0; box < boxCount; box++) {
            for (int what = 0; what <= 4; what++) {
                d = d * 31 + order(box, what);
            }
        }
        return d;
    }

    // ---- what is refused

    private static void checkWarming(int warmth, int turns) {
        if (warmth < COOLEST || warmth > HOTTEST || turns < 1 || turns > 40) {
            throw new IllegalArgumentException("a warmth is 15 to 50, turns are 1 to 40");
        }
    }

    private static void checkRoom(int room) {
        if (room < 10 || room > 40) {
            throw new IllegalArgumentException("a room is 10 to 40 degrees warm");
        }
    }

    private static void checkWhat(int what, int last) {
        if (what < 0 || what > last) {
            throw new IndexOutOfBoundsException("nothing is told by this number");
        }
    }

    // ---- what stands in the rows

    private Bowl bowlAt(int number) {
        Bowl bowl = number < 0 || number >= MOST_BOWLS ? null : bowls[number];
        if (bowl == null) {
            throw new IndexOutOfBoundsException("no such bowl");
        }
        return bowl;
    }

    private Slab slabAt(int number) {
        Slab slab = findSlab(number);
        if (slab == null) {
            throw new IndexOutOfBoundsException("no such slab");
        }
        return slab;
    }

    /** The slab of a number, or null if there is none. */
    private Slab findSlab(int number) {
        return number < 0 || number >= MOST_SLABS ? null : slabs[number];
    }

    private Box boxAt(int number) {
        Box box = number < 0 || number >= MOST_BOXES ? null : boxes[number];
        if (box == null) {
            throw new IndexOutOfBoundsException("no such box");
        }
        return box;
    }

    private int addSlab(Slab slab) {
        int number = slabCount;
        if (number >= MOST_SLABS) {
            throw new IllegalStateException("there are 8 slabs");
        }
        slabs[number] = slab;
        slabCount = number + 1;
        return number;
    }

    /** Moves slabs up over the places that have become null. */
    private void closeGaps() {
        int kept = 0;
        for (int number = 0; number < MOST_SLABS; number++) {
            Slab slab = slabs[number];
            slabs[number] = null;
            if (slab != null) {
                slabs[kept] = slab;
                kept++;
            }
        }
        slabCount = kept;
    }

    private int filledBoxes() {
        int filled = 0;
        for (Box box : boxes) {
            if (box != null && box.isFilled) {
                filled++;
            }
        }
        return filled;
    }

    private int gramsOfBowls() {
        int grams = 0;
        for (Bowl bowl : bowls) {
            if (bowl != null) {
                grams += bowl.grams;
            }
        }
        return grams;
    }

    private int squaresOfSlabs() {
        int squares = 0;
        for (Slab slab : slabs) {
            if (slab != null) {
                squares += slab.squares();
            }
        }
        return squares;
    }

    private int bloomedSlabs() {
        int bloomed = 0;
        for (Slab slab : slabs) {
            if (slab != null && slab.isBloomed()) {
                bloomed++;
            }
        }
        return bloomed;
    }

    // ---- how boxes are filled

    private int firstEmptyBoxFor(Slab slab) {
        for (int number = 0; number < MOST_BOXES; number++) {
            Box box = boxes[number];
            if (box != null && !box.isFilled && box.suits(slab, slab.bloom)) {
                return number;
            }
        }
        return NONE;
    }

    /**
     * Notes in slabForBox which slab each box would get if one slab (or NONE) were polished first.
     * Planned slabs keep their places until then: that leaves the order of the others as it is.
     */
    private int planFilling(int polished) {
        for (int slab = 0; slab < MOST_SLABS; slab++) {
            isPlanned[slab] = false;
        }
        int filled = 0;
        for (int number = 0; number < MOST_BOXES; number++) {
            Box box = boxes[number];
            slabForBox[number] = box == null || box.isFilled ? NONE : planSlab(box, polished);
            if (slabForBox[number] != NONE) {
                filled++;
            }
        }
        return filled;
    }

    private int planSlab(Box box, int polished) {
        for (int number = 0; number < MOST_SLABS; number++) {
            Slab slab = slabs[number];
            if (slab != null && !isPlanned[number]) {
                int bloom = number == polished ? slab.bloomBehindPolish() : slab.bloom;
                if (box.suits(slab, bloom)) {
                    isPlanned[number] = true;
                    return number;
                }
            }
        }
        return NONE;
    }

    /** Leaves a gap in the row of slabs; does nothing if there is no such slab. */
    private void moveIntoBox(int number, Box box) {
        Slab slab = findSlab(number);
        if (slab != null && box != null) {
            box.take(slab);
            slabs[number] = null;
        }
    }

    /** How many crystals of each sort there are. */
    private static final class Crystals {
        static final int SORTS = 5;
        static final int WANTED = 5;
        static final int MOST = 100;

        /** Place 0 is unused, so that the sorts keep the numbers of the document. */
        final int[] many;

        Crystals() {
            many = new int[SORTS + 1];
        }

        void becomeLike(Crystals other) {
            for (int sort = 1; sort <= SORTS; sort++) {
                many[sort] = other.many[sort];
            }
        }

        void vanish() {
            for (int sort = 1; sort <= SORTS; sort++) {
                many[sort] = 0;
            }
        }

        void keepAt(int warmth, int turns) {
            for (int turn = 0; turn < turns; turn++) {
                halveWhatMelts(warmth);
                letGrow(warmth);
            }
        }

        void halveWhatMelts(int warmth) {
            for (int sort = 1; sort <= SORTS; sort++) {
                if (warmth >= meltingPoint(sort)) {
                    many[sort] /= 2;
                }
            }
        }

        void letGrow(int warmth) {
            if (warmth < 34) {
                int sort = growingSort(warmth);
                increase(sort, 8 + many[sort] / 4);
            }
        }

        static int meltingPoint(int sort) {
            return 15 + 4 * sort;
        }

        static int growingSort(int warmth) {
            for (int sort = 1; sort <= SORTS; sort++) {
                if (meltingPoint(sort) > warmth + 3) {
                    return sort;
                }
            }
            return WANTED;
        }

        /** Adds as many as find room. */
        void increase(int sort, int more) {
            many[sort] += Math.max(0, Math.min(more, MOST - total()));
        }

        int total() {
            int total = 0;
            for (int sort = 1; sort <= SORTS; sort++) {
                total += many[sort];
            }
            return total;
        }

        int temper() {
            int temper = 2 * many[5] + many[4] - many[1] - many[2] - many[3];
            return Math.max(0, Math.min(temper, MOST_TEMPER));
        }
    }

    /** Chocolate that can be tempered. */
    private static final class Bowl {
        final Crystals crystals;
        int grams;
        int warmth;

        Bowl(int grams) {
            this.crystals = new Crystals();
            this.grams = grams;
            this.warmth = 20;
        }

        /** Takes all that the other bowl holds; the warmth of that one stays. */
        void takeIn(Bowl other) {
            for (int sort = 1; sort <= Crystals.SORTS; sort++) {
                crystals.many[sort] = mixed(crystals.many[sort], other.crystals.many[sort], other.grams);
            }
            warmth = mixed(warmth, other.warmth, other.grams);
            grams += other.grams;
            other.grams = 0;
            other.crystals.vanish();
        }

        int mixed(int own, int others, int othersGrams) {
            int all = grams + othersGrams;
            return all <= 0 ? own : (own * grams + others * othersGrams) / all;
        }
    }

    /** Cast chocolate, whole or broken. */
    private static final class Slab {
        /** The greatest bloom with which a slab may still go into a box. */
        static final int FAIR_BLOOM = 20;
        static final int MOST_BLOOM = 100;

        final int temper;
        int columns;
        int rows;
        int bloom;
        int age;

        Slab(int columns, int rows, int temper) {
            this.columns = columns;
            this.rows = rows;
            this.temper = temper;
        }

        int squares() {
            return columns * rows;
        }

        int grams() {
            return squares() * GRAMS_OF_A_SQUARE;
        }

        boolean isBloomed() {
            return bloom > FAIR_BLOOM;
        }

        int bloomBehindPolish() {
            return Math.max(0, bloom - 15);
        }

        int bloomOfADay(int room) {
            return (MOST_TEMPER - temper) / 10 + 2 * Math.max(0, room - 24);
        }

        void standFor(int days, int room) {
            bloom = Math.min(MOST_BLOOM, bloom + days * bloomOfADay(room));
            age += days;
        }

        Slab partBehind(int at, boolean betweenRows) {
            Slab part = betweenRows ? new Slab(columns, rows - at, temper) : new Slab(columns - at, rows, temper);
            part.bloom = bloom;
            part.age = age;
            return part;
        }

        void cutDownTo(int at, boolean betweenRows) {
            if (betweenRows) {
                rows = at;
            } else {
                columns = at;
            }
        }
    }

    /** An order for one slab. */
    private static final class Box {
        final int squares;
        final int temper;
        boolean isFilled;
        int slabTemper;
        int slabBloom;

        Box(int squares, int temper) {
            this.squares = squares;
            this.temper = temper;
            this.slabTemper = NONE;
            this.slabBloom = NONE;
        }

        /** Whether a slab fits, with a bloom that it has or would have. */
        boolean suits(Slab slab, int bloom) {
            return slab.squares() == squares && slab.temper >= temper && bloom <= Slab.FAIR_BLOOM;
        }

        void take(Slab slab) {
            isFilled = true;
            slabTemper = slab.temper;
            slabBloom = slab.bloom;
        }
    }
}
