/**
 * A superword-level vectorizer for straight-line code: it analyses a block of loads, constants,
 * arithmetic and stores for dependences, combines instructions into packs of 2 or 4 lanes and runs
 * the block with and without packs.
 */
public final class PackLanes {

    public static final int UNKNOWN = -1, BAD = -2, LATE = -3, FULL = -4, NONE = -9;

    private static final int LOAD = 0, CONSTANT = 1, SUM = 2, DIFFERENCE = 3, PRODUCT = 4, QUOTIENT = 5, STORE = 6;

    private static final int INSTRUCTIONS = 16, ADDRESSES = 16, CELLS = 8;

    private static final int LETTERS = 80, HEADER = 4, ACTS = 14, SIGHTS = 6, SLOTS = 2, SHARERS = 6, COMMANDS = 3;

    // A state has the start values in its first places and the settings behind them, so that one
    // number names whatever an act can change.
    private static final int BASE = 16, KNOWN = 17, WIDTH = 18, PLACES = 19;

    private static final int[] FACTORIALS = {1, 1, 2, 6, 24, 120, 720};

    private final Source source = new Source();
    private final Code code = new Code();
    private final Code draft = new Code();
    private final int[] present = new int[PLACES];
    private final int[] random = new int[PLACES];
    private final int[] asked = new int[PLACES];
    private final int[] commands = new int[COMMANDS];
    private final Acts acts = new Acts();
    private final Slots slots = new Slots();
    private final Sights sights = new Sights();
    private final Packer now = new Packer(code);
    private final Packer trial = new Packer(code);
    private final Machine machine = new Machine(code);
    private final int[] sums = new int[1 << SHARERS];
    private long randomNumber = 0;

    public PackLanes() {
        restart(8, 1, 2);
        now.choosePacks(present, 0);
    }

    // ---- the block

    public int write(int letter) {
        if (letter < 0 || letter > 255) {
            return BAD;
        }
        return source.append(letter);
    }

    public int wipe() {
        return source.clear();
    }

    public int fault() {
        return source.parse(draft);
    }

    public int block() {
        if (source.parse(draft) != NONE) {
            return LATE;
        }
        source.parse(code);
        restart(source.headerDigit(1), source.headerDigit(2), source.headerDigit(3));
        now.choosePacks(present, 0);
        return code.count;
    }

    public int about(int what) {
        switch (what) {
            case 0:
                return code.count;
            case 1:
                return present[BASE];
            case 2:
                return present[KNOWN];
            case 3:
                return present[WIDTH];
            case 4:
                return code.cost();
            case 5:
                return code.cost() - now.gains;
            case 6:
                return now.packs;
            case 7:
                return now.members;
            case 8:
                return now.trees;
            case 9:
                machine.runInOrder(present, NONE);
                return machine.stop;
            case 10:
                machine.runPacked(present, now);
                return machine.stop;
            case 11:
                return bestWidth();
            case 12:
                return acts.count;
            case 13:
                return sights.count;
            case 14:
                return source.length;
            default:
                return BAD;
        }
    }

    public int instruction(int instruction, int what) {
        if (!code.has(instruction)) {
            return UNKNOWN;
        }
        switch (what) {
            case 0:
                return code.kind[instruction];
            case 1:
                return now.number[instruction];
            case 2:
                return now.lane[instruction];
            case 3:
                return now.node[instruction];
            case 4:
                return Integer.bitCount(now.links.needs[instruction]);
            case 5:
                machine.runInOrder(present, NONE);
                return machine.value[instruction];
            default:
                return BAD;
        }
    }

    public int address(int address, int what) {
        if (address < 0 || address >= ADDRESSES) {
            return UNKNOWN;
        }
        switch (what) {
            case 0:
                return present[address] + 100;
            case 1:
                machine.runInOrder(present, NONE);
                return machine.memory[address];
            case 2:
                machine.runPacked(present, now);
                return machine.memory[address];
            default:
                return BAD;
        }
    }

    public int depends(int i, int j) {
        if (!code.has(i) || !code.has(j)) {
            return UNKNOWN;
        }
        return holds(now.links.needs[j], i) ? 1 : 0;
    }

    // ---- acts

    public int start(int address, int v) {
        if (address < 0 || address >= ADDRESSES) {
            return UNKNOWN;
        }
        if (v < -99 || v > 99) {
            return BAD;
        }
        int old = present[address];
        acts.remember(address, old);
        present[address] = v;
        return old + 100;
    }

    public int set(int what, int v) {
        if (what < 0 || what > 2 || !settingAllows(BASE + what, v)) {
            return BAD;
        }
        int place = BASE + what;
        int old = present[place];
        acts.remember(place, old);
        present[place] = v;
        now.choosePacks(present, 0);
        return old;
    }

    public int undo() {
        if (acts.count == 0) {
            return LATE;
        }
        acts.takeBack(present);
        now.choosePacks(present, 0);
        return acts.count;
    }

    // ---- asked

    public int tried(int row, int cell) {
        if (row < 0 || row > 1 || cell < 0 || cell > CELLS - present[WIDTH]) {
            return BAD;
        }
        trial.keepNothing(present, 0);
        int root = trial.rootAt(row, cell);
        return root < 0 ? NONE : trial.gainOfTree(root) + 100;
    }

    public int judge(int n, long row) {
        if (n < 1 || n > COMMANDS || row < 0) {
            return BAD;
        }
        long rest = row;
        for (int k = n - 1; k >= 0; k--) {
            commands[k] = (int) (rest % 100000L);
            rest /= 100000L;
        }
        if (rest != 0) {
            return BAD;
        }
        System.arraycopy(present, 0, asked, 0, PLACES);
        for (int k = 0; k < n; k++) {
            if (!isRight(commands[k])) {
                return k;
            }
        }
        return NONE;
    }

    // ---- seen

    public int see(int address, int v) {
        if (address < 0 || address >= ADDRESSES) {
            return UNKNOWN;
        }
        return sights.add(address, v);
    }

    public int unsee() {
        return sights.clear();
    }

    public int which() {
        int found = 0;
        for (int i = 0; i < code.count; i++) {
            machine.runInOrder(present, i);
            if (sights.agreeWith(machine.memory)) {
                found |= 1 << i;
            }
        }
        return found;
    }

    // ---- shares, chances

    public int share(int instruction, boolean upper) {
        if (!code.has(instruction)) {
            return UNKNOWN;
        }
        int n = Integer.bitCount(code.stores());
        if (code.kind[instruction] != STORE || n > SHARERS) {
            return LATE;
        }
        sumGainsOfAllChoices(n);
        int own = 1 << Integer.bitCount(code.stores() & (1 << instruction) - 1);
        int total = 0;
        for (int chosen = 0; chosen < 1 << n; chosen++) {
            if ((chosen & own) == 0) {
                total += ordersThrough(chosen, n) * (sums[chosen | own] - sums[chosen]);
            }
        }
        return partOfFraction(total, FACTORIALS[n], upper);
    }

    public int chance(int v, int x, boolean upper) {
        if (v < 0 || v > 99 || x < 0 || x > 10) {
            return BAD;
        }
        int n = Integer.bitCount(code.stores());
        if (n > SHARERS) {
            return LATE;
        }
        sumGainsOfAllChoices(n);
        long total = 0;
        for (int chosen = 0; chosen < 1 << n; chosen++) {
            int size = Integer.bitCount(chosen);
            if (sums[chosen] >= v) {
                total += power(10 - x, size) * power(x, n - size);
            }
        }
        return partOfFraction((int) total, (int) power(10, n), upper);
    }

    public long seed(long v) {
        long old = randomNumber;
        randomNumber = v;
        return old;
    }

    public int drawn(int m) {
        if (m < 1 || m > 10) {
            return BAD;
        }
        int changed = 0;
        random[BASE] = present[BASE];
        for (int run = 0; run < m; run++) {
            drawStartValues();
            machine.runInOrder(random, NONE);
            for (int k = 0; k < ADDRESSES; k++) {
                if (machine.memory[k] != random[k]) {
                    changed++;
                }
            }
        }
        return changed;
    }

    // ---- slots

    public int keep(int slot) {
        if (slot < 0 || slot >= SLOTS) {
            return UNKNOWN;
        }
        slots.fill(slot, present);
        return present[WIDTH];
    }

    public int again(int slot) {
        if (slot < 0 || slot >= SLOTS) {
            return UNKNOWN;
        }
        if (!slots.filled[slot]) {
            return LATE;
        }
        slots.restore(slot, present);
        acts.clear();
        now.choosePacks(present, 0);
        return present[WIDTH];
    }

    // ---- what the methods share

    private void restart(int base, int known, int width) {
        for (int k = 0; k < ADDRESSES; k++) {
            present[k] = k + 1;
        }
        present[BASE] = base;
        present[KNOWN] = known;
        present[WIDTH] = width;
        acts.clear();
        slots.clear();
    }

    private int bestWidth() {
        System.arraycopy(present, 0, asked, 0, PLACES);
        asked[WIDTH] = 2;
        trial.choosePacks(asked, 0);
        int gainsOfTwo = trial.gains;
        asked[WIDTH] = 4;
        trial.choosePacks(asked, 0);
        return trial.gains > gainsOfTwo ? 4 : 2;
    }

    /** Tells whether a command is right in the asked state, and carries it out if it sets something. */
    private boolean isRight(int command) {
        int sort = command / 10000;
        int i = command / 100 % 100;
        int j = command % 100;
        if (sort >= 1 && sort <= 3) {
            int place = sort == 1 ? WIDTH : sort == 2 ? KNOWN : BASE;
            if (i != 0 || !settingAllows(place, j)) {
                return false;
            }
            asked[place] = j;
            return true;
        }
        trial.choosePacks(asked, 0);
        switch (sort) {
            case 4:
                return code.has(i) && code.has(j) && holds(trial.links.needs[j], i);
            case 5:
                return code.has(i) && j == (holds(trial.members, i) ? 1 : 0);
            case 6:
                return i == 0 && j == code.cost() - trial.gains;
            default:
                return false;
        }
    }

    private static boolean settingAllows(int place, int v) {
        switch (place) {
            case BASE:
                return v >= 0 && v <= 8;
            case KNOWN:
                return v == 0 || v == 1;
            default:
                return v == 2 || v == 4;
        }
    }

    /** Puts into sums, for each set of the n stores, the sum of the gains if the others are omitted. */
    private void sumGainsOfAllChoices(int n) {
        for (int chosen = 0; chosen < 1 << n && chosen < sums.length; chosen++) {
            trial.choosePacks(present, storesOutside(chosen));
            sums[chosen] = trial.gains;
        }
    }

    /** The stores that are omitted if only those are there that a mask over the stores names. */
    private int storesOutside(int chosen) {
        int outside = 0;
        int place = 0;
        for (int i = 0; i < code.count; i++) {
            if (code.kind[i] == STORE) {
                if (!holds(chosen, place)) {
                    outside |= 1 << i;
                }
                place++;
            }
        }
        return outside;
    }

    /** In how many orders of n stores just the chosen ones come before a given other one. */
    private static int ordersThrough(int chosen, int n) {
        int before = Integer.bitCount(chosen);
        int after = n - 1 - before;
        if (before >= FACTORIALS.length || after < 0 || after >= FACTORIALS.length) {
            return 0;
        }
        return FACTORIALS[before] * FACTORIALS[after];
    }

    private void drawStartValues() {
        randomNumber = randomNumber * 6364136223846793005L + 1442695040888963407L;
        int v = (int) (randomNumber >>> 33);
        for (int k = 0; k < ADDRESSES; k++) {
            random[k] = (v >> k & 15) - 4;
        }
    }

    private static int partOfFraction(int over, int under, boolean upper) {
        int divisor = commonDivisor(Math.abs(over), under);
        if (divisor < 1) {
            divisor = 1;
        }
        return (upper ? over : under) / divisor;
    }

    private static int commonDivisor(int a, int b) {
        int larger = a;
        int smaller = b;
        for (int step = 0; step < 100 && smaller != 0; step++) {
            int rest = larger % smaller;
            larger = smaller;
            smaller = rest;
        }
        return larger;
    }

    private static long power(long of, int exponent) {
        long product = 1;
        for (int k = 0; k < exponent; k++) {
            product *= of;
        }
        return product;
    }

    private static boolean holds(int set, int member) {
        return (set >> member & 1) == 1;
    }

    // ---- bundles: an instruction a lane, four bits each, so that two bundles are equal if the
    // numbers are, and every lane is an index that the tables of instructions have

    private static int inLane(int bundle, int lane) {
        return bundle >> 4 * lane & 15;
    }

    private static int withLane(int bundle, int lane, int instruction) {
        return bundle | instruction << 4 * lane;
    }

    private static int setOf(int bundle, int width) {
        int set = 0;
        for (int k = 0; k < width; k++) {
            set |= 1 << (bundle >> 4 * k & 15);
        }
        return set;
    }

    /** The text, and the grammar that it follows. */
    private static final class Source {
        private final int[] letters = new int[LETTERS];
        private final int[] parts = new int[4];
        private int length = 0;

        int append(int letter) {
            if (length >= LETTERS) {
                return FULL;
            }
            letters[length] = letter;
            length++;
            return length;
        }

        int clear() {
            int old = length;
            length = 0;
            return old;
        }

        int headerDigit(int place) {
            return letters[place & 3] - '0';
        }

        /** Reads the instructions into a code; the answer is the fault of the text, or NONE. */
        int parse(Code into) {
            into.clear();
            for (int at = 0; at < HEADER; at++) {
                if (at >= length || !headerAllows(at, letters[at])) {
                    return at;
                }
            }
            int at = HEADER;
            for (int k = 0; k <= INSTRUCTIONS && at < length; k++) {
                int kind = kindOf(letters[at]);
                if (kind < 0 || !into.canBegin(kind)) {
                    return at;
                }
                int size = partsOf(kind);
                for (int part = 1; part <= size; part++) {
                    int place = at + part;
                    if (place >= length) {
                        return length;
                    }
                    parts[part] = partOf(kind, part, letters[place], into);
                    if (parts[part] < 0) {
                        return place;
                    }
                }
                into.add(kind, parts[1], parts[2], parts[3]);
                at += 1 + size;
            }
            return NONE;
        }

        private static boolean headerAllows(int at, int letter) {
            switch (at) {
                case 0:
                    return letter == 'V';
                case 1:
                    return letter >= '0' && letter <= '8';
                case 2:
                    return letter == '0' || letter == '1';
                default:
                    return letter == '2' || letter == '4';
            }
        }

        private static int kindOf(int letter) {
            switch (letter) {
                case 'l':
                    return LOAD;
                case 'k':
                    return CONSTANT;
                case '+':
                    return SUM;
                case '-':
                    return DIFFERENCE;
                case '*':
                    return PRODUCT;
                case '/':
                    return QUOTIENT;
                case 's':
                    return STORE;
                default:
                    return NONE;
            }
        }

        private static int partsOf(int kind) {
            return kind == CONSTANT ? 1 : kind == STORE ? 3 : 2;
        }

        /** What a letter behind the first one of an instruction says, or NONE if it cannot stand there. */
        private static int partOf(int kind, int part, int letter, Code before) {
            if (kind == CONSTANT) {
                return digitBelow(10, letter);
            }
            if ((kind == LOAD || kind == STORE) && part == 1) {
                return letter == 'A' ? 0 : letter == 'B' ? 1 : NONE;
            }
            if ((kind == LOAD || kind == STORE) && part == 2) {
                return digitBelow(CELLS, letter);
            }
            return before.operandNamed(letter);
        }

        private static int digitBelow(int limit, int letter) {
            int digit = letter - '0';
            return digit >= 0 && digit < limit ? digit : NONE;
        }
    }

    /** The instructions of a block. */
    private static final class Code {
        final int[] kind = new int[INSTRUCTIONS];
        final int[] row = new int[INSTRUCTIONS];
        final int[] cell = new int[INSTRUCTIONS];
        final int[] digit = new int[INSTRUCTIONS];
        // Operands are earlier instructions, so they are indices of these tables; a store has its at the left.
        final int[] left = new int[INSTRUCTIONS];
        final int[] right = new int[INSTRUCTIONS];
        int count = 0;

        void clear() {
            count = 0;
        }

        boolean has(int instruction) {
            return instruction >= 0 && instruction < count;
        }

        boolean canBegin(int sort) {
            if (count >= INSTRUCTIONS) {
                return false;
            }
            return sort == LOAD || sort == CONSTANT || Integer.bitCount(stores()) < count;
        }

        int operandNamed(int letter) {
            int i = letter - 'a';
            return has(i) && kind[i] != STORE ? i : NONE;
        }

        void add(int sort, int first, int second, int third) {
            if (count >= INSTRUCTIONS) {
                return;
            }
            int i = count;
            count++;
            kind[i] = sort;
            row[i] = 0;
            cell[i] = 0;
            digit[i] = 0;
            left[i] = 0;
            right[i] = 0;
            switch (sort) {
                case LOAD:
                    row[i] = first;
                    cell[i] = second;
                    break;
                case CONSTANT:
                    digit[i] = first;
                    break;
                case STORE:
                    row[i] = first;
                    cell[i] = second;
                    left[i] = third;
                    break;
                default:
                    left[i] = first;
                    right[i] = second;
                    break;
            }
        }

        boolean usesMemory(int i) {
            return kind[i] == LOAD || kind[i] == STORE;
        }

        /** The set of the instructions whose values an instruction uses. */
        int operands(int i) {
            switch (kind[i]) {
                case LOAD:
                case CONSTANT:
                    return 0;
                case STORE:
                    return 1 << left[i];
                default:
                    return 1 << left[i] | 1 << right[i];
            }
        }

        /** An address; the mask keeps it one whatever the base is. */
        int addressOf(int i, int base) {
            return (row[i] == 0 ? cell[i] : base + cell[i]) & 15;
        }

        int stores() {
            int set = 0;
            for (int i = 0; i < count; i++) {
                if (kind[i] == STORE) {
                    set |= 1 << i;
                }
            }
            return set;
        }

        int cost() {
            int cost = 0;
            for (int i = 0; i < count; i++) {
                if (kind[i] != CONSTANT) {
                    cost++;
                }
            }
            return cost;
        }
    }

    /** Which instruction follows, needs and uses which, as sets. */
    private static final class Links {
        private final Code code;
        final int[] follows = new int[INSTRUCTIONS];
        final int[] needs = new int[INSTRUCTIONS];
        final int[] users = new int[INSTRUCTIONS];
        int omitted = 0;

        Links(Code of) {
            code = of;
        }

        void find(int base, int known, int without) {
            omitted = without;
            for (int j = 0; j < code.count; j++) {
                follows[j] = 0;
                needs[j] = 0;
                users[j] = 0;
                for (int i = 0; i < j; i++) {
                    if (!holds(omitted, i) && !holds(omitted, j)) {
                        link(i, j, base, known);
                    }
                }
            }
        }

        private void link(int i, int j, int base, int known) {
            boolean used = holds(code.operands(j), i);
            if (used) {
                users[i] |= 1 << j;
            }
            if (used || clashInMemory(i, j, base, known) || clashByStop(i, j)) {
                follows[j] |= 1 << i;
                needs[j] |= needs[i] | 1 << i;
            }
        }

        private boolean clashInMemory(int i, int j, int base, int known) {
            if (!code.usesMemory(i) || !code.usesMemory(j) || code.kind[i] == LOAD && code.kind[j] == LOAD) {
                return false;
            }
            if (code.row[i] == code.row[j]) {
                return code.cell[i] == code.cell[j];
            }
            return known == 0 || code.addressOf(i, base) == code.addressOf(j, base);
        }

        private boolean clashByStop(int i, int j) {
            boolean first = code.kind[i] == QUOTIENT;
            boolean second = code.kind[j] == QUOTIENT;
            return first && (second || code.kind[j] == STORE) || second && code.kind[i] == STORE;
        }

        boolean isPack(int bundle, int width) {
            int first = inLane(bundle, 0);
            int sort = code.kind[first];
            if (sort == CONSTANT || sort == QUOTIENT) {
                return false;
            }
            int set = setOf(bundle, width);
            if (Integer.bitCount(set) != width) {
                return false;
            }
            for (int k = 0; k < width; k++) {
                int i = inLane(bundle, k);
                if (code.kind[i] != sort || (needs[i] & set) != 0) {
                    return false;
                }
                if (code.usesMemory(i) && (code.row[i] != code.row[first] || code.cell[i] != code.cell[first] + k)) {
                    return false;
                }
            }
            return true;
        }
    }

    /** The tree that is built from a root. */
    private static final class Tree {
        private static final int PACKS = 8, BUNDLES = 16;

        private final Code code;
        private final Links links;
        final int[] packs = new int[PACKS];
        int size = 0;
        int members = 0;
        private final int[] queue = new int[BUNDLES];
        private int queued = 0;
        private int width = 2;
        private int kept = 0;
        private int single = 0;
        private int costs = 0;

        Tree(Code of, Links by) {
            code = of;
            links = by;
        }

        /** Builds the tree, if the instructions of a set are already in kept packs. */
        void grow(int root, int lanes, int keptBefore) {
            width = lanes;
            kept = keptBefore;
            size = 0;
            members = 0;
            queued = 0;
            single = 0;
            costs = 0;
            addPack(root);
            append(operands(root, 0));
            for (int head = 0; head < queued && head < BUNDLES; head++) {
                handle(queue[head]);
            }
        }

        int gain() {
            int gain = (width - 1) * size - costs;
            for (int i = 0; i < code.count; i++) {
                if (holds(members, i) && code.kind[i] != STORE && isTakenOut(i)) {
                    gain--;
                }
            }
            return gain;
        }

        private boolean isTakenOut(int i) {
            return holds(single, i) || (links.users[i] & ~(members | kept)) != 0;
        }

        private void handle(int bundle) {
            if (links.isPack(bundle, width) && (setOf(bundle, width) & (members | kept)) == 0) {
                addPack(bundle);
                if (code.kind[inLane(bundle, 0)] != LOAD) {
                    int turned = turnedLanes(bundle);
                    append(operands(bundle, turned));
                    append(operands(bundle, ~turned));
                }
            } else if (!hasPack(bundle)) {
                takeOneByOne(bundle);
            }
        }

        private void takeOneByOne(int bundle) {
            int set = setOf(bundle, width);
            boolean constants = true;
            for (int k = 0; k < width; k++) {
                if (code.kind[inLane(bundle, k)] != CONSTANT) {
                    constants = false;
                }
            }
            single |= set;
            costs += constants || Integer.bitCount(set) == 1 ? 1 : width;
        }

        private boolean hasPack(int bundle) {
            for (int k = 0; k < size; k++) {
                if (packs[k] == bundle) {
                    return true;
                }
            }
            return false;
        }

        private void addPack(int pack) {
            if (size < PACKS) {
                packs[size] = pack;
                size++;
                members |= setOf(pack, width);
            }
        }

        private void append(int bundle) {
            if (queued < BUNDLES) {
                queue[queued] = bundle;
                queued++;
            }
        }

        /** The left operands of a pack, but the right ones in the lanes of a set. */
        private int operands(int pack, int fromRight) {
            int bundle = 0;
            for (int k = 0; k < width; k++) {
                int i = inLane(pack, k);
                bundle = withLane(bundle, k, holds(fromRight, k) ? code.right[i] : code.left[i]);
            }
            return bundle;
        }

        /** The set of the lanes in which left and right operand are exchanged. */
        private int turnedLanes(int pack) {
            int first = inLane(pack, 0);
            if (code.kind[first] != SUM && code.kind[first] != PRODUCT) {
                return 0;
            }
            int wanted = code.kind[code.left[first]];
            int turned = 0;
            for (int k = 1; k < width; k++) {
                int i = inLane(pack, k);
                if (code.kind[code.left[i]] != wanted && code.kind[code.right[i]] == wanted) {
                    turned |= 1 << k;
                }
            }
            return turned;
        }
    }

    /** The kept packs and the schedule, as they follow from a state and the omitted stores. */
    private static final class Packer {
        private final Code code;
        final Links links;
        private final Tree tree;
        private int width = 2;
        // The set of the instructions in the node of each instruction.
        private final int[] partners = new int[INSTRUCTIONS];
        final int[] number = new int[INSTRUCTIONS];
        final int[] lane = new int[INSTRUCTIONS];
        final int[] node = new int[INSTRUCTIONS];
        final int[] order = new int[INSTRUCTIONS];
        int ordered = 0;
        int packs = 0;
        int members = 0;
        int trees = 0;
        int gains = 0;

        Packer(Code of) {
            code = of;
            links = new Links(of);
            tree = new Tree(of, links);
        }

        void keepNothing(int[] state, int omitted) {
            links.find(state[BASE], state[KNOWN], omitted);
            width = state[WIDTH];
            packs = 0;
            members = 0;
            trees = 0;
            gains = 0;
            for (int i = 0; i < INSTRUCTIONS; i++) {
                partners[i] = 1 << i;
                number[i] = NONE;
                lane[i] = NONE;
            }
        }

        void choosePacks(int[] state, int omitted) {
            keepNothing(state, omitted);
            for (int row = 0; row < 2; row++) {
                for (int cell = 0; cell <= CELLS - width; cell++) {
                    int root = rootAt(row, cell);
                    if (root >= 0) {
                        considerRoot(root);
                    }
                }
            }
            putInOrder();
        }

        /** The pack of the least stores into the cells from a cell on, or NONE. */
        int rootAt(int row, int cell) {
            int root = 0;
            for (int k = 0; k < width; k++) {
                int store = leastStore(row, cell + k);
                if (store < 0) {
                    return NONE;
                }
                root = withLane(root, k, store);
            }
            return links.isPack(root, width) ? root : NONE;
        }

        int gainOfTree(int root) {
            tree.grow(root, width, members);
            return tree.gain();
        }

        private int leastStore(int row, int cell) {
            for (int i = 0; i < code.count; i++) {
                if (code.kind[i] == STORE && code.row[i] == row && code.cell[i] == cell
                        && !holds(members | links.omitted, i)) {
                    return i;
                }
            }
            return NONE;
        }

        private void considerRoot(int root) {
            tree.grow(root, width, members);
            int gain = tree.gain();
            if (gain <= 0) {
                return;
            }
            joinTree(true);
            if (!putInOrder()) {
                joinTree(false);
                return;
            }
            for (int p = 0; p < tree.size; p++) {
                for (int k = 0; k < width; k++) {
                    int i = inLane(tree.packs[p], k);
                    number[i] = packs;
                    lane[i] = k;
                }
                packs++;
            }
            members |= tree.members;
            trees++;
            gains += gain;
        }

        /** Makes a node of each pack of the tree, or of each instruction in them again. */
        private void joinTree(boolean joined) {
            for (int p = 0; p < tree.size; p++) {
                int set = setOf(tree.packs[p], width);
                for (int k = 0; k < width; k++) {
                    int i = inLane(tree.packs[p], k);
                    partners[i] = joined ? set : 1 << i;
                }
            }
        }

        /** Makes the schedule of the nodes, and tells whether it is possible. */
        private boolean putInOrder() {
            int all = (1 << code.count) - 1;
            int done = links.omitted;
            int nodes = 0;
            ordered = 0;
            for (int step = 0; step < INSTRUCTIONS && done != all; step++) {
                int next = leastReady(done);
                if (next < 0) {
                    return false;
                }
                appendNode(partners[next], nodes);
                done |= partners[next];
                nodes++;
            }
            return done == all;
        }

        // In ascending order the first instruction of a node that is met is its least.
        private int leastReady(int done) {
            for (int i = 0; i < code.count; i++) {
                if (!holds(done, i) && (followedBy(partners[i]) & ~(done | partners[i])) == 0) {
                    return i;
                }
            }
            return NONE;
        }

        private int followedBy(int set) {
            int before = 0;
            for (int i = 0; i < code.count; i++) {
                if (holds(set, i)) {
                    before |= links.follows[i];
                }
            }
            return before;
        }

        private void appendNode(int set, int index) {
            for (int i = 0; i < code.count; i++) {
                if (holds(set, i) && ordered < INSTRUCTIONS) {
                    node[i] = index;
                    order[ordered] = i;
                    ordered++;
                }
            }
        }
    }

    /** Carries out a block. */
    private static final class Machine {
        private final Code code;
        final int[] memory = new int[ADDRESSES];
        final int[] value = new int[INSTRUCTIONS];
        int stop = NONE;
        private int base = 8;

        Machine(Code of) {
            code = of;
        }

        /** Runs the block from a state on; the instruction idle, if it is one, does nothing. */
        void runInOrder(int[] state, int idle) {
            begin(state);
            for (int i = 0; i < code.count && stop == NONE; i++) {
                if (i != idle) {
                    carryOut(i);
                }
            }
        }

        // The instructions of a pack do not depend on one another, so one after the other is at once.
        void runPacked(int[] state, Packer packer) {
            begin(state);
            for (int k = 0; k < packer.ordered && k < INSTRUCTIONS && stop == NONE; k++) {
                carryOut(packer.order[k]);
            }
        }

        private void begin(int[] state) {
            stop = NONE;
            base = state[BASE];
            System.arraycopy(state, 0, memory, 0, ADDRESSES);
            for (int i = 0; i < INSTRUCTIONS; i++) {
                value[i] = 0;
            }
        }

        private void carryOut(int i) {
            int leftValue = value[code.left[i]];
            int rightValue = value[code.right[i]];
            switch (code.kind[i]) {
                case LOAD:
                    value[i] = memory[code.addressOf(i, base)];
                    break;
                case CONSTANT:
                    value[i] = code.digit[i];
                    break;
                case SUM:
                    value[i] = leftValue + rightValue;
                    break;
                case DIFFERENCE:
                    value[i] = leftValue - rightValue;
                    break;
                case PRODUCT:
                    value[i] = leftValue * rightValue;
                    break;
                case QUOTIENT:
                    if (rightValue == 0) {
                        stop = i;
                    } else {
                        value[i] = leftValue / rightValue;
                    }
                    break;
                default:
                    memory[code.addressOf(i, base)] = leftValue;
                    break;
            }
        }
    }

    /** The acts that are remembered: which place each one changed, and what was there before it. */
    private static final class Acts {
        private final int[] places = new int[ACTS];
        private final int[] olds = new int[ACTS];
        int count = 0;

        void clear() {
            count = 0;
        }

        void remember(int place, int old) {
            if (count >= ACTS) {
                System.arraycopy(places, 1, places, 0, ACTS - 1);
                System.arraycopy(olds, 1, olds, 0, ACTS - 1);
                count = ACTS - 1;
            }
            places[count] = place;
            olds[count] = old;
            count++;
        }

        void takeBack(int[] state) {
            if (count > 0) {
                count--;
                int place = places[count];
                if (place >= 0 && place < state.length) {
                    state[place] = olds[count];
                }
            }
        }
    }

    /** The slots. */
    private static final class Slots {
        final boolean[] filled = new boolean[SLOTS];
        private final int[][] states = new int[SLOTS][PLACES];

        void clear() {
            for (int k = 0; k < SLOTS; k++) {
                filled[k] = false;
            }
        }

        void fill(int slot, int[] state) {
            System.arraycopy(state, 0, states[slot], 0, PLACES);
            filled[slot] = true;
        }

        void restore(int slot, int[] state) {
            System.arraycopy(states[slot], 0, state, 0, PLACES);
        }
    }

    /** The observations. */
    private static final class Sights {
        private final int[] addresses = new int[SIGHTS];
        private final int[] values = new int[SIGHTS];
        int count = 0;

        int add(int address, int v) {
            if (count >= SIGHTS) {
                return FULL;
            }
            addresses[count] = address;
            values[count] = v;
            count++;
            return count;
        }

        int clear() {
            int old = count;
            count = 0;
            return old;
        }

        boolean agreeWith(int[] memory) {
            for (int k = 0; k < count; k++) {
                if (memory[addresses[k] & 15] != values[k]) {
                    return false;
                }
            }
            return true;
        }
    }
}
