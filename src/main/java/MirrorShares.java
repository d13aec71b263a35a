import java.util.Arrays;

/** Half mirror rooms: what share of a beam comes out where, exactly, loops and all. */
public final class MirrorShares {
    public static final int BAD = -1, NO = -2, FULL = -3, NONE = -4;

    private static final int FREE = 0, MIRROR_SLASH = 1, MIRROR_BACKSLASH = 2, HALF_SLASH = 3,
            HALF_BACKSLASH = 4, WALL = 5, OPEN = 6, SHUT = 7;
    private static final String KIND_LETTERS = "./\\fb#ox";

    private static final int UP = 0, RIGHT = 1, DOWN = 2, LEFT = 3, DIRECTIONS = 4;

    private static final int LEAST_COLUMNS = 2, MOST_COLUMNS = 5, MOST_ROWS = 4;
    private static final int MOST_CELLS = MOST_COLUMNS * MOST_ROWS;
    private static final int MOST_PORTS = 2 * (MOST_COLUMNS + MOST_ROWS);
    private static final int MOST_HALVES = 5, MOST_DOORS = 4;
    private static final int MOST_LETTERS = 60, FIRST_LETTER = 32, LAST_LETTER = 126;
    private static final int MOST_UNDONE = 4;
    private static final int MOST_TOLD = 1000;

    private static final int FIRST_COLUMNS = 4, FIRST_ROWS = 3;
    private static final int[] FIRST_KINDS = {
        FREE, HALF_SLASH, MIRROR_SLASH, FREE,
        HALF_BACKSLASH, FREE, SHUT, HALF_SLASH,
        MIRROR_BACKSLASH, HALF_SLASH, FREE, MIRROR_BACKSLASH
    };

    private final Told text = new Told();
    private final Room room = new Room();
    private final Room trial = new Room();
    private final Past past = new Past();
    private final Walk walk = new Walk();
    private final Beam beam = new Beam();

    public MirrorShares() {
    }

    // ---- told

    public int write(int letter) {
        if (letter < FIRST_LETTER || letter > LAST_LETTER) {
            return BAD;
        }
        return text.append(letter);
    }

    public int wipe() {
        return text.clear();
    }

    public int fault() {
        return text.readInto(trial);
    }

    public int lay() {
        if (text.readInto(trial) != NONE || trial.rows == 0) {
            return NO;
        }
        room.become(trial);
        past.forget();
        return room.cells();
    }

    // ---- changes

    public int put(int cell, int kind) {
        int was = room.kindAt(cell);
        if (was == BAD || kind < FREE || kind > SHUT) {
            return BAD;
        }
        if (was == kind) {
            return NO;
        }
        tryCell(cell, kind);
        if (trial.isOverfull()) {
            return FULL;
        }
        change(cell, was, kind);
        return was;
    }

    public int door(int d, int is) {
        int cell = room.doorCell(d);
        if (cell == BAD || !isPart(is, 2)) {
            return BAD;
        }
        int was = room.kindAt(cell);
        int kind = is == 1 ? OPEN : SHUT;
        if (was == kind) {
            return NO;
        }
        change(cell, was, kind);
        return room.countKinds(OPEN, OPEN);
    }

    public int turn() {
        if (room.rows < LEAST_COLUMNS || room.columns > MOST_ROWS) {
            return NO;
        }
        turnRoom();
        past.rememberTurn();
        return room.columns;
    }

    public int undo() {
        if (past.size == 0) {
            return NO;
        }
        int latest = past.takeLatest();
        if (latest == Past.TURN) {
            // Three quarters more to the right are the quarter back.
            turnRoom();
            turnRoom();
            turnRoom();
        } else {
            room.tell(Past.cellOf(latest), Past.kindOf(latest));
        }
        return past.size;
    }

    private void change(int cell, int was, int kind) {
        past.rememberKind(cell, was);
        room.tell(cell, kind);
    }

    private void turnRoom() {
        trial.becomeTurned(room);
        room.become(trial);
    }

    // ---- the room

    public int cell(int cell) {
        return room.kindAt(cell);
    }

    public int doorAt(int d) {
        return room.doorCell(d);
    }

    public int port(int p, int what) {
        if (!room.hasPort(p) || !isPart(what, 2)) {
            return BAD;
        }
        return what == 0 ? room.portCell(p) : room.portDirection(p);
    }

    // ---- shares

    public int share(int p, int q, int part) {
        if (!hasPorts(p, q) || !isPart(part, 2)) {
            return BAD;
        }
        beam.shine(room, p);
        return lowest(beam.outAt(q), beam.whole, part);
    }

    public int lost(int p, int what) {
        if (!room.hasPort(p) || !isPart(what, 4)) {
            return BAD;
        }
        beam.shine(room, p);
        return lowest(what < 2 ? beam.swallowed() : beam.caught(), beam.whole, what % 2);
    }

    public int bits(int p, int q) {
        if (!hasPorts(p, q)) {
            return BAD;
        }
        beam.shine(room, p);
        int above = lowest(beam.outAt(q), beam.whole, 0);
        int below = lowest(beam.outAt(q), beam.whole, 1);
        return floatBits(above, below);
    }

    public int lit(int p) {
        if (!room.hasPort(p)) {
            return BAD;
        }
        walk.goFrom(room, p);
        return walk.litCells;
    }

    public int far(int p, int q) {
        if (!hasPorts(p, q)) {
            return BAD;
        }
        walk.goFrom(room, p);
        return walk.fewestTo(q);
    }

    public int alike(int p, int q) {
        if (!hasPorts(p, q)) {
            return BAD;
        }
        beam.shine(room, p);
        long swallowed = beam.swallowed();
        long caught = beam.caught();
        long whole = beam.whole;
        beam.shine(room, q);
        boolean same = compareFractions(swallowed, whole, beam.swallowed(), beam.whole) == 0
                && compareFractions(caught, whole, beam.caught(), beam.whole) == 0;
        return same ? 1 : 0;
    }

    public int best(int p, int q, int what) {
        if (!hasPorts(p, q) || !isPart(what, 3)) {
            return BAD;
        }
        int sets = 1 << room.countKinds(OPEN, SHUT);
        int bestSet = 0;
        long above = -1;
        long below = 1;
        for (int set = 0; set < sets; set++) {
            openOnly(set);
            beam.shine(trial, p);
            int more = compareFractions(beam.outAt(q), beam.whole, above, below);
            if (more > 0 || more == 0 && Integer.bitCount(set) < Integer.bitCount(bestSet)) {
                bestSet = set;
                above = beam.outAt(q);
                below = beam.whole;
            }
        }
        return what == 0 ? bestSet : lowest(above, below, what - 1);
    }

    public int found(int p, int q, int a, int b, int what) {
        if (!hasPorts(p, q) || a < 0 || a > MOST_TOLD || b < 1 || b > MOST_TOLD || !isPart(what, 2)) {
            return BAD;
        }
        int many = 0;
        int first = NONE;
        for (int i = 0; i < 2 * room.cells(); i++) {
            if (room.kindAt(i / 2) != FREE) {
                continue;
            }
            tryCell(i / 2, MIRROR_SLASH + i % 2);
            beam.shine(trial, p);
            if (compareFractions(beam.outAt(q), beam.whole, a, b) == 0) {
                many++;
                first = first == NONE ? i : first;
            }
        }
        return what == 0 ? many : first;
    }

    public int count(int what) {
        switch (what) {
            case 0: return room.columns;
            case 1: return room.rows;
            case 2: return room.countKinds(HALF_SLASH, HALF_BACKSLASH);
            case 3: return room.countKinds(OPEN, SHUT);
            case 4: return room.countKinds(OPEN, OPEN);
            case 5: return room.countKinds(WALL, WALL);
            case 6: return room.countKinds(MIRROR_SLASH, MIRROR_BACKSLASH);
            case 7: return room.ports();
            case 8: return past.size;
            case 9: return text.length;
            default: return BAD;
        }
    }

    private boolean hasPorts(int p, int q) {
        return room.hasPort(p) && room.hasPort(q);
    }

    private static boolean isPart(int part, int parts) {
        return part >= 0 && part < parts;
    }

    private void openOnly(int set) {
        trial.become(room);
        for (int d = 0; d < MOST_DOORS; d++) {
            trial.tell(room.doorCell(d), (set >> d & 1) == 1 ? OPEN : SHUT);
        }
    }

    private void tryCell(int cell, int kind) {
        trial.become(room);
        trial.tell(cell, kind);
    }

    // ---- fractions

    private static int compareFractions(long above, long below, long otherAbove, long otherBelow) {
        return Long.compare(above * otherBelow, otherAbove * below);
    }

    /** Above (part 0) or below (part 1) of a fraction in lowest terms. */
    private static int lowest(long above, long below, int part) {
        long divisor = commonDivisor(above, below);
        if (divisor == 0) {
            return part;
        }
        return (int) ((part == 0 ? above : below) / divisor);
    }

    private static long commonDivisor(long one, long other) {
        long large = one;
        long small = other;
        for (int i = 0; i < 100 && small != 0; i++) {
            long rest = large % small;
            large = small;
            small = rest;
        }
        return large;
    }

    /**
     * By hand, since the language leaves no Float.floatToIntBits. A share is 0 or from 2^-10 to 1,
     * so there is no sign, and nothing below the normal floats.
     */
    private static int floatBits(int above, int below) {
        if (above <= 0 || below <= 0) {
            return 0;
        }
        float leading = 8388608f;
        float quotient = (float) above / (float) below;
        int exponent = 127 + 23;
        for (int i = 0; i < 127 && quotient < leading; i++) {
            quotient = quotient * 2f;
            exponent--;
        }
        return (exponent << 23) + (int) (quotient - leading);
    }

    // ---- what a kind does to a beam

    private static boolean isHalf(int kind) {
        return kind == HALF_SLASH || kind == HALF_BACKSLASH;
    }

    private static boolean letsOn(int kind) {
        return kind == FREE || kind == OPEN || isHalf(kind);
    }

    private static boolean turnsBeam(int kind) {
        return kind == MIRROR_SLASH || kind == MIRROR_BACKSLASH || isHalf(kind);
    }

    private static int turnedBy(int kind, int direction) {
        boolean slash = kind == MIRROR_SLASH || kind == HALF_SLASH;
        return slash ? direction ^ 1 : LEFT - direction;
    }

    /** The cells of a room and its border. */
    private static final class Room {
        private final int[] kinds = new int[MOST_CELLS];
        private int columns = FIRST_COLUMNS;
        private int rows = FIRST_ROWS;

        Room() {
            System.arraycopy(FIRST_KINDS, 0, kinds, 0, FIRST_KINDS.length);
        }

        int cells() {
            return columns * rows;
        }

        int ports() {
            return 2 * (columns + rows);
        }

        boolean hasPort(int p) {
            return p >= 0 && p < ports();
        }

        /** BAD for a cell that there is not. */
        int kindAt(int cell) {
            return cell >= 0 && cell < cells() && cell < MOST_CELLS ? kinds[cell] : BAD;
        }

        void tell(int cell, int kind) {
            if (cell >= 0 && cell < cells() && cell < MOST_CELLS) {
                kinds[cell] = kind;
            }
        }

        int countKinds(int first, int last) {
            int many = 0;
            for (int cell = 0; cell < cells(); cell++) {
                int kind = kindAt(cell);
                if (kind >= first && kind <= last) {
                    many++;
                }
            }
            return many;
        }

        boolean isOverfull() {
            return countKinds(HALF_SLASH, HALF_BACKSLASH) > MOST_HALVES || countKinds(OPEN, SHUT) > MOST_DOORS;
        }

        /** BAD for a door that there is not. */
        int doorCell(int d) {
            int number = 0;
            for (int cell = 0; cell < cells(); cell++) {
                if (kindAt(cell) >= OPEN) {
                    if (number == d) {
                        return cell;
                    }
                    number++;
                }
            }
            return BAD;
        }

        int portDirection(int p) {
            if (p < columns) {
                return DOWN;
            }
            if (p < columns + rows) {
                return LEFT;
            }
            return p < 2 * columns + rows ? UP : RIGHT;
        }

        int portCell(int p) {
            switch (portDirection(p)) {
                case DOWN: return p;
                case LEFT: return (p - columns) * columns + columns - 1;
                case UP: return (rows - 1) * columns + p - columns - rows;
                default: return (p - 2 * columns - rows) * columns;
            }
        }

        /** The next cell, or ~port where a beam goes out. */
        int beyond(int cell, int direction) {
            int x = columns > 0 ? cell % columns : 0;
            int y = columns > 0 ? cell / columns : 0;
            switch (direction) {
                case UP: return y > 0 ? cell - columns : ~x;
                case RIGHT: return x < columns - 1 ? cell + 1 : ~(columns + y);
                case DOWN: return y < rows - 1 ? cell + columns : ~(columns + rows + x);
                default: return x > 0 ? cell - 1 : ~(2 * columns + rows + y);
            }
        }

        void become(Room other) {
            columns = other.columns;
            rows = other.rows;
            System.arraycopy(other.kinds, 0, kinds, 0, MOST_CELLS);
        }

        void becomeTurned(Room other) {
            columns = other.rows;
            rows = other.columns;
            for (int y = 0; y < other.rows; y++) {
                for (int x = 0; x < other.columns; x++) {
                    int kind = other.kindAt(y * other.columns + x);
                    tell(x * columns + columns - 1 - y, turnedKind(kind));
                }
            }
        }

        private static int turnedKind(int kind) {
            switch (kind) {
                case MIRROR_SLASH: return MIRROR_BACKSLASH;
                case MIRROR_BACKSLASH: return MIRROR_SLASH;
                case HALF_SLASH: return HALF_BACKSLASH;
                case HALF_BACKSLASH: return HALF_SLASH;
                default: return kind;
            }
        }

        void empty() {
            columns = 0;
            rows = 0;
        }

        /** One row more below, its cells yet to be told; false if it does not fit. */
        boolean addRow(int width) {
            boolean fits = rows == 0 ? width >= LEAST_COLUMNS && width <= MOST_COLUMNS : width == columns;
            if (!fits || rows >= MOST_ROWS) {
                return false;
            }
            columns = width;
            rows++;
            return true;
        }
    }

    /** THE TEXT. */
    private static final class Told {
        private final int[] letters = new int[MOST_LETTERS];
        private int length = 0;

        int append(int letter) {
            if (length >= MOST_LETTERS) {
                return FULL;
            }
            letters[length] = letter;
            length++;
            return length;
        }

        int clear() {
            int was = length;
            length = 0;
            return was;
        }

        /** FAULT or NONE; only with NONE is the room of use then. */
        int readInto(Room target) {
            target.empty();
            int start = 0;
            for (int i = 0; i < MOST_LETTERS && start < length; i++) {
                int end = endOfItem(start);
                if (!readRow(start, end, target)) {
                    return start;
                }
                start = end + 1;
            }
            return NONE;
        }

        /** 0, which is no letter, where there is none. */
        private int letterAt(int place) {
            return place >= 0 && place < length && place < MOST_LETTERS ? letters[place] : 0;
        }

        /** The place of the ; behind an item, or the text's length if there is none. */
        private int endOfItem(int start) {
            for (int place = start; place < length; place++) {
                if (letterAt(place) == ';') {
                    return place;
                }
            }
            return length;
        }

        private boolean readRow(int start, int end, Room target) {
            int width = end - start - 1;
            if (end >= length || letterAt(start) != 'r' || !target.addRow(width)) {
                return false;
            }
            int firstCell = target.cells() - width;
            for (int x = 0; x < width; x++) {
                int kind = KIND_LETTERS.indexOf((char) letterAt(start + 1 + x));
                if (kind < 0) {
                    return false;
                }
                target.tell(firstCell + x, kind);
            }
            return !target.isOverfull();
        }
    }

    /** The latest changes, each as what takes it back. */
    private static final class Past {
        private static final int TURN = -1;
        private static final int KINDS = SHUT + 1;

        private final int[] changes = new int[MOST_UNDONE];
        private int size = 0;

        static int cellOf(int change) {
            return change / KINDS;
        }

        static int kindOf(int change) {
            return change % KINDS;
        }

        void rememberKind(int cell, int was) {
            remember(cell * KINDS + was);
        }

        void rememberTurn() {
            remember(TURN);
        }

        private void remember(int change) {
            if (size >= MOST_UNDONE) {
                System.arraycopy(changes, 1, changes, 0, MOST_UNDONE - 1);
                size = MOST_UNDONE - 1;
            }
            changes[size] = change;
            size++;
        }

        int takeLatest() {
            if (size <= 0) {
                return TURN;
            }
            size--;
            return changes[size];
        }

        void forget() {
            size = 0;
        }
    }

    /** Where some of a beam comes, nearest first. */
    private static final class Walk {
        private static final int STATES = MOST_CELLS * DIRECTIONS;

        private final int[] queue = new int[STATES];
        private final int[] cellsTo = new int[STATES];
        private final int[] cellsToPort = new int[MOST_PORTS];
        private int waiting = 0;
        private int litCells = 0;

        void goFrom(Room room, int port) {
            Arrays.fill(cellsTo, 0);
            Arrays.fill(cellsToPort, 0);
            waiting = 0;
            litCells = 0;
            enter(room.portCell(port), room.portDirection(port), 1);
            for (int i = 0; i < STATES && i < waiting; i++) {
                spread(room, queue[i] / DIRECTIONS, queue[i] % DIRECTIONS);
            }
        }

        int fewestTo(int port) {
            return port >= 0 && port < MOST_PORTS && cellsToPort[port] > 0 ? cellsToPort[port] : NONE;
        }

        private void enter(int cell, int direction, int cells) {
            int state = cell * DIRECTIONS + direction;
            if (state < 0 || state >= STATES || waiting >= STATES || cellsTo[state] != 0) {
                return;
            }
            cellsTo[state] = cells;
            queue[waiting] = state;
            waiting++;
            litCells |= 1 << cell;
        }

        private void spread(Room room, int cell, int direction) {
            int kind = room.kindAt(cell);
            int state = cell * DIRECTIONS + direction;
            int cells = state >= 0 && state < STATES ? cellsTo[state] : 0;
            if (letsOn(kind)) {
                leave(room, cell, direction, cells);
            }
            if (turnsBeam(kind)) {
                leave(room, cell, turnedBy(kind, direction), cells);
            }
        }

        private void leave(Room room, int cell, int direction, int cells) {
            int next = room.beyond(cell, direction);
            if (next >= 0) {
                enter(next, direction, cells + 1);
            } else {
                reach(~next, cells);
            }
        }

        private void reach(int port, int cells) {
            if (port >= 0 && port < MOST_PORTS && cellsToPort[port] == 0) {
                cellsToPort[port] = cells;
            }
        }
    }

    /**
     * The shares of a beam, each a number of parts of one whole.
     *
     * A half mirror sends what comes in a direction and what comes in the direction turned by it
     * the same two ways. So a HALF cell has two SPLITS (numbered 2 * cell, and 1 more for the one that
     * sends down), and the amounts that the splits send each way are all that is not known.
     */
    private static final class Beam {
        private static final int SPLIT_PLACES = 2 * MOST_CELLS;
        private static final int MOST_SPLITS = 2 * MOST_HALVES;
        private static final int MOST_STEPS = MOST_CELLS * DIRECTIONS;
        // Ends of a ray: a split's place, PORT_END and the port, SWALLOWED_END, ENDLESS.
        private static final int PORT_END = SPLIT_PLACES;
        private static final int SWALLOWED_END = PORT_END + MOST_PORTS;
        private static final int ENDLESS = SWALLOWED_END + 1;
        private static final int ENDS = ENDLESS + 1;

        private final int[] splitPlace = new int[MOST_SPLITS];
        private final int[] splitNumber = new int[ENDS];
        private final int[] rayEnd = new int[2 * MOST_SPLITS];
        private final long[][] rows = new long[MOST_SPLITS][MOST_SPLITS + 1];
        private final long[] parts = new long[ENDS];
        private int splits = 0;
        private long whole = 1;

        long outAt(int port) {
            return port >= 0 && port < MOST_PORTS ? parts[PORT_END + port] : 0;
        }

        long swallowed() {
            return parts[SWALLOWED_END];
        }

        long caught() {
            long left = whole - swallowed();
            for (int port = 0; port < MOST_PORTS; port++) {
                left -= outAt(port);
            }
            return left;
        }

        void shine(Room room, int port) {
            int firstEnd = endOf(room, room.portCell(port), room.portDirection(port));
            findSplits(room, firstEnd);
            setRows();
            solveRows();
            addParts(firstEnd);
        }

        private void findSplits(Room room, int firstEnd) {
            Arrays.fill(splitNumber, NONE);
            splits = 0;
            noteSplit(firstEnd);
            for (int i = 0; i < MOST_SPLITS && i < splits; i++) {
                int cell = splitPlace[i] / 2;
                int direction = splitPlace[i] % 2 == 0 ? UP : DOWN;
                rayEnd[2 * i] = endBeyond(room, cell, direction);
                rayEnd[2 * i + 1] = endBeyond(room, cell, turnedBy(room.kindAt(cell), direction));
                noteSplit(rayEnd[2 * i]);
                noteSplit(rayEnd[2 * i + 1]);
            }
        }

        private void noteSplit(int end) {
            if (end < 0 || end >= SPLIT_PLACES || splits >= MOST_SPLITS || splitNumber[end] != NONE) {
                return;
            }
            splitNumber[end] = splits;
            splitPlace[splits] = end;
            splits++;
        }

        private static int endBeyond(Room room, int cell, int direction) {
            int next = room.beyond(cell, direction);
            return next >= 0 ? endOf(room, next, direction) : PORT_END + ~next;
        }

        /** Where a ray that comes into a cell ends; ENDLESS only if it came from a ring of mirrors. */
        private static int endOf(Room room, int firstCell, int firstDirection) {
            int cell = firstCell;
            int direction = firstDirection;
            for (int i = 0; i < MOST_STEPS; i++) {
                int kind = room.kindAt(cell);
                if (isHalf(kind)) {
                    boolean sendsUp = direction == UP || turnedBy(kind, direction) == UP;
                    return sendsUp ? 2 * cell : 2 * cell + 1;
                }
                if (!letsOn(kind) && !turnsBeam(kind)) {
                    return SWALLOWED_END;
                }
                direction = turnsBeam(kind) ? turnedBy(kind, direction) : direction;
                int next = room.beyond(cell, direction);
                if (next < 0) {
                    return PORT_END + ~next;
                }
                cell = next;
            }
            return ENDLESS;
        }

        /** Twice what a split sends each way is what comes to it, from the port (to split 0 alone) and from splits. */
        private void setRows() {
            for (int i = 0; i < splits; i++) {
                Arrays.fill(rows[i], 0);
                rows[i][i] = 2;
                rows[i][splits] = i == 0 ? 1 : 0;
            }
            for (int ray = 0; ray < 2 * splits; ray++) {
                int end = rayEnd[ray];
                int target = end >= 0 && end < ENDS ? splitNumber[end] : NONE;
                if (target >= 0 && target < splits) {
                    rows[target][ray / 2]--;
                }
            }
        }

        /**
         * Elimination without fractions: each division leaves no rest, numbers go to 2^15 at most.
         * A split takes in no more rays than it sends out, so splits that only feed each other
         * cannot be come into from outside: each split found leads on to an end, and no pivot is 0.
         */
        private void solveRows() {
            whole = 1;
            for (int k = 0; k < splits; k++) {
                long pivot = rows[k][k];
                for (int i = 0; i < splits; i++) {
                    if (i != k) {
                        clearColumn(rows[i], rows[k], k, pivot);
                    }
                }
                whole = pivot;
            }
        }

        private void clearColumn(long[] row, long[] pivotRow, int k, long pivot) {
            for (int j = k + 1; j <= splits && whole != 0; j++) {
                row[j] = (pivot * row[j] - row[k] * pivotRow[j]) / whole;
            }
        }

        private void addParts(int firstEnd) {
            Arrays.fill(parts, 0);
            addPart(firstEnd, whole);
            for (int ray = 0; ray < 2 * splits; ray++) {
                addPart(rayEnd[ray], rows[ray / 2][splits]);
            }
        }

        private void addPart(int end, long amount) {
            if (end >= 0 && end < ENDS) {
                parts[end] += amount;
            }
        }
    }
}
