/**
 * A winter road with gates, turning bays and depots, on which convoys go as fast as their slowest
 * vehicle, leave stragglers in bays and take up those of others. The document's promises say what
 * each public method does.
 */
public final class WinterRoad {
    /** There is no such result. */
    public static final int NONE = -9;

    private static final int MOST_SIGNS = 140;
    private static final int FIRST_LENGTH = 20;
    private static final int LEAST_LENGTH = 10;
    private static final int MOST_LENGTH = 60;
    private static final int MOST_GATES = 4;
    private static final int LEAST_PERIOD = 2;
    private static final int MOST_PERIOD = 24;
    private static final int MOST_BAYS = 6;
    private static final int MOST_PLACES = 6;
    private static final int MOST_DEPOTS = 4;
    private static final int MOST_STOCK = 999;
    private static final int MOST_SUPPLY = 500;
    private static final int MOST_CONVOYS = 4;
    private static final int MOST_IN_CONVOY = 8;
    private static final int MOST_HELD = 23;
    private static final int MOST_VEHICLES = 16;
    private static final int MOST_SPEED = 9;
    private static final int MOST_USE = 4;
    private static final int LEAST_TANK = 20;
    private static final int MOST_TANK = 99;
    private static final int MOST_GIFT = 10;
    private static final int MOST_HOURS = 99;
    private static final int HOURS_AHEAD = 300;
    private static final int MOST_LACK = 40;
    private static final int MOST_REMEMBERED = 14;
    private static final int SLOTS = 2;
    private static final int MOST_COMMANDS = 3;
    private static final long GROUP = 100000L;

    // The columns of the tables. Those of gates, bays, depots and vehicles are the document's
    // numbers of what gate, bay, depot and vehicle tell.
    private static final int KM = 0;
    private static final int PERIOD = 1;
    private static final int CLOSED = 2;
    private static final int PHASE = 3;
    private static final int PLACES = 1;
    private static final int STOCK = 1;
    private static final int HELD = 1;
    private static final int WAITED = 2;
    private static final int STOOD = 3;
    private static final int SPEED = 0;
    private static final int USE = 1;
    private static final int TANK = 2;
    private static final int LITERS = 3;
    private static final int STAY = 4;
    private static final int HOST = 5;
    private static final int BURNT = 6;

    // Where a vehicle is: its number in the column STAY.
    private static final int IN_CONVOY = 0;
    private static final int IN_BAY = 1;
    private static final int ARRIVED = 2;

    private final JourneyText text = new JourneyText();
    private final State now = new State();
    /** What is tried out, and what a text is read into: its content is free between calls. */
    private final State trial = new State();
    private final History history = new History();
    private final Shelf slots = new Shelf(SLOTS);

    public WinterRoad() {
        now.begin(FIRST_LENGTH);
    }

    // ---- text

    public int append(int c) throws IllegalArgumentException, IllegalStateException {
        checkRange(c, 0, 255);
        refuseIf(text.isFull());
        return text.addSign((char) c);
    }

    public int clearText() {
        return text.emptyOut();
    }

    public int errorPosition() {
        return text.readInto(trial);
    }

    public int load() throws IllegalStateException {
        refuseIf(text.readInto(trial) != NONE);
        now.copyFrom(trial);
        history.forget();
        slots.emptyOut();
        return now.vehicles.count();
    }

    // ---- what there is

    public int about(int what) throws IllegalArgumentException {
        checkRange(what, 0, 11);
        switch (what) {
            case 0: return now.length();
            case 1: return now.hours();
            case 2: return now.gates.count();
            case 3: return now.bays.count();
            case 4: return now.depots.count();
            case 5: return now.convoys.count();
            case 6: return now.vehicles.count();
            case 7: return now.howMany(ARRIVED);
            case 8: return now.howMany(IN_BAY);
            case 9: return now.vehicles.sum(LITERS);
            case 10: return now.depots.sum(STOCK);
            default: return now.vehicles.sum(BURNT);
        }
    }

    public int convoy(int c, int what) throws IndexOutOfBoundsException, IllegalArgumentException {
        checkExists(now.convoys, c);
        checkRange(what, 0, 7);
        switch (what) {
            case 0: return now.convoys.get(c, KM);
            case 1: return now.inConvoys.size(c);
            case 2: return now.slowestSpeed(c);
            case 3: return now.convoys.get(c, HELD);
            case 4: return now.convoys.get(c, WAITED);
            case 5: return now.convoys.get(c, STOOD);
            case 6: return now.litersWith(c);
            default: return now.isAtEnd(c) ? 1 : 0;
        }
    }

    public int member(int c, int i) throws IndexOutOfBoundsException, IllegalArgumentException {
        checkExists(now.convoys, c);
        refuseArgumentIf(i < 0);
        return now.inConvoys.get(c, i);
    }

    public int vehicle(int v, int what) throws IndexOutOfBoundsException, IllegalArgumentException {
        checkExists(now.vehicles, v);
        checkRange(what, 0, 6);
        return now.vehicles.get(v, what);
    }

    public int gate(int g, int what) throws IndexOutOfBoundsException, IllegalArgumentException {
        checkExists(now.gates, g);
        checkRange(what, 0, 5);
        switch (what) {
            case 4: return now.closedFor(g) > 0 ? 1 : 0;
            case 5: return now.closedFor(g);
            default: return now.gates.get(g, what);
        }
    }

    public int bay(int b, int what) throws IndexOutOfBoundsException, IllegalArgumentException {
        checkExists(now.bays, b);
        checkRange(what, 0, 3);
        switch (what) {
            case 2: return now.inBays.size(b);
            case 3: return now.inBays.get(b, 0);
            default: return now.bays.get(b, what);
        }
    }

    public int depot(int d, int what) throws IndexOutOfBoundsException, IllegalArgumentException {
        checkExists(now.depots, d);
        checkRange(what, 0, 1);
        return now.depots.get(d, what);
    }

    // ---- actions

    public int addGate(int km, int period, int closed, int phase)
            throws IllegalArgumentException, IllegalStateException {
        checkRange(km, 1, now.length() - 1);
        checkRange(period, LEAST_PERIOD, MOST_PERIOD);
        checkRange(closed, 0, period - 1);
        checkRange(phase, 0, period - 1);
        refuseIf(now.gates.isFull() || now.gates.rowAt(km) != NONE);
        history.remember(now);
        return now.newGate(km, period, closed, phase);
    }

    public int addBay(int km, int places) throws IllegalArgumentException, IllegalStateException {
        checkRange(km, 1, now.length() - 1);
        checkRange(places, 1, MOST_PLACES);
        refuseIf(now.bays.isFull() || now.bays.rowAt(km) != NONE);
        history.remember(now);
        return now.newBay(km, places);
    }

    public int addDepot(int km, int liters) throws IllegalArgumentException, IllegalStateException {
        checkRange(km, 0, now.length());
        checkRange(liters, 0, MOST_STOCK);
        refuseIf(now.depots.isFull() || now.depots.rowAt(km) != NONE);
        history.remember(now);
        return now.newDepot(km, liters);
    }

    public int addConvoy() throws IllegalStateException {
        refuseIf(now.convoys.isFull());
        history.remember(now);
        return now.newConvoy();
    }

    public int addVehicle(int c, int speed, int use, int tank, int liters)
            throws IndexOutOfBoundsException, IllegalArgumentException, IllegalStateException {
        checkExists(now.convoys, c);
        checkRange(speed, 1, MOST_SPEED);
        checkRange(use, 1, MOST_USE);
        checkRange(tank, LEAST_TANK, MOST_TANK);
        checkRange(liters, 0, tank);
        refuseIf(!now.hasRoomForVehicle(c) || now.isAtEnd(c));
        history.remember(now);
        return now.newVehicle(c, speed, use, tank, liters);
    }

    public int hold(int c, int hours) throws IndexOutOfBoundsException, IllegalArgumentException {
        checkExists(now.convoys, c);
        checkRange(hours, 0, MOST_HELD);
        history.remember(now);
        int before = now.convoys.get(c, HELD);
        now.convoys.put(c, HELD, hours);
        return before;
    }

    public int supply(int d, int liters)
            throws IndexOutOfBoundsException, IllegalArgumentException, IllegalStateException {
        checkExists(now.depots, d);
        checkRange(liters, 1, MOST_SUPPLY);
        refuseIf(now.depots.get(d, STOCK) + liters > MOST_STOCK);
        history.remember(now);
        now.depots.raise(d, STOCK, liters);
        return now.depots.get(d, STOCK);
    }

    public int pass(int hours) throws IllegalArgumentException {
        checkRange(hours, 1, MOST_HOURS);
        history.remember(now);
        int before = now.howMany(ARRIVED);
        now.letGoBy(hours);
        return now.howMany(ARRIVED) - before;
    }

    public int undo() throws IllegalStateException {
        refuseIf(history.size() == 0);
        history.takeBack(now);
        return history.size();
    }

    // ---- what would be

    public int arrives(int c) throws IndexOutOfBoundsException {
        checkExists(now.convoys, c);
        trial.copyFrom(now);
        return trial.hoursToEnd(c);
    }

    public int leaves(int c) throws IndexOutOfBoundsException {
        checkExists(now.convoys, c);
        trial.copyFrom(now);
        return trial.firstLeftBy(c);
    }

    public int bestHold(int c) throws IndexOutOfBoundsException {
        checkExists(now.convoys, c);
        if (now.isAtEnd(c)) {
            return 0;
        }
        int best = NONE;
        int fewest = HOURS_AHEAD + 1;
        for (int hours = 0; hours <= MOST_HELD; hours++) {
            trial.copyFrom(now);
            trial.convoys.put(c, HELD, hours);
            int end = trial.hoursToEnd(c);
            if (end != NONE && end - hours < fewest) {
                best = hours;
                fewest = end - hours;
            }
        }
        return best;
    }

    public int lacks(int d) throws IndexOutOfBoundsException {
        checkExists(now.depots, d);
        for (int more = 0; more <= MOST_LACK; more++) {
            trial.copyFrom(now);
            trial.depots.raise(d, STOCK, more);
            if (trial.allArrive()) {
                return more;
            }
        }
        return NONE;
    }

    // ---- scripts, simulations

    public int runScript(int n, long script) throws IllegalArgumentException {
        checkRange(n, 1, MOST_COMMANDS);
        long above = 1;
        for (int i = 0; i < n; i++) {
            above *= GROUP;
        }
        refuseArgumentIf(script < 0 || script >= above);
        trial.copyFrom(now);
        for (int i = 0; i < n; i++) {
            if (!trial.obeys(groupOf(script, n - 1 - i))) {
                return i;
            }
        }
        return NONE;
    }

    public int simulate(long seed, int m) throws IllegalArgumentException {
        checkRange(m, 1, MOST_HOURS);
        trial.copyFrom(now);
        int arrivedBefore = trial.howMany(ARRIVED);
        int burntBefore = trial.vehicles.sum(BURNT);
        long x = seed;
        for (int i = 0; i < m; i++) {
            x = x * 6364136223846793005L + 1442695040888963407L;
            trial.meetChance((int) (x >>> 33));
            trial.letHourGoBy();
        }
        int arrived = trial.howMany(ARRIVED) - arrivedBefore;
        return 10000 * arrived + trial.vehicles.sum(BURNT) - burntBefore;
    }

    // ---- save slots

    public int save(int slot) throws IndexOutOfBoundsException {
        checkSlot(slot);
        slots.keep(slot, now);
        return now.hours();
    }

    public int restore(int slot) throws IndexOutOfBoundsException, IllegalStateException {
        checkSlot(slot);
        refuseIf(!slots.holds(slot));
        slots.giveBack(slot, now);
        history.forget();
        return now.hours();
    }

    // ---- checks

    private static void checkExists(Table things, int i) throws IndexOutOfBoundsException {
        if (!things.has(i)) {
            throw new IndexOutOfBoundsException("there is no such thing");
        }
    }

    private static void checkSlot(int slot) throws IndexOutOfBoundsException {
        if (!isWithin(slot, 0, SLOTS - 1)) {
            throw new IndexOutOfBoundsException("there is no such save slot");
        }
    }

    private static void checkRange(int number, int least, int most) throws IllegalArgumentException {
        refuseArgumentIf(!isWithin(number, least, most));
    }

    private static void refuseArgumentIf(boolean outOfRange) throws IllegalArgumentException {
        if (outOfRange) {
            throw new IllegalArgumentException("an argument is out of its range");
        }
    }

    private static void refuseIf(boolean notPossible) throws IllegalStateException {
        if (notPossible) {
            throw new IllegalStateException("this is not possible now");
        }
    }

    private static boolean isWithin(int number, int least, int most) {
        return number >= least && number <= most;
    }

    /** The command of the script that has so many behind it. */
    private static int groupOf(long script, int behind) {
        long rest = script;
        for (int i = 0; i < behind; i++) {
            rest /= GROUP;
        }
        return (int) (rest % GROUP);
    }

    /**
     * Things of one kind, a row of numbers for each. Every method that takes a row looks itself
     * whether it exists: a shared look would make the calls of a script too deep.
     */
    private static final class Table {
        private final int most;
        private final int columns;
        private final int[] cells;
        private int count;

        Table(int most, int columns) {
            this.most = most;
            this.columns = columns;
            this.cells = new int[Math.max(0, most * columns)];
        }

        int count() {
            return count;
        }

        boolean isFull() {
            return count >= most;
        }

        boolean has(int row) {
            return row >= 0 && row < count;
        }

        /** The number in a cell; NONE if there is no such row or column. */
        int get(int row, int column) {
            int cell = row * columns + column;
            boolean exists = row >= 0 && row < count && column >= 0 && column < columns;
            return exists && cell >= 0 && cell < cells.length ? cells[cell] : NONE;
        }

        /** Puts a number into a cell; does nothing if there is no such row or column. */
        void put(int row, int column, int number) {
            int cell = row * columns + column;
            boolean exists = row >= 0 && row < count && column >= 0 && column < columns;
            if (exists && cell >= 0 && cell < cells.length) {
                cells[cell] = number;
            }
        }

        /** Adds to the number in a cell; does nothing if there is no such row or column. */
        void raise(int row, int column, int by) {
            int cell = row * columns + column;
            boolean exists = row >= 0 && row < count && column >= 0 && column < columns;
            if (exists && cell >= 0 && cell < cells.length) {
                cells[cell] += by;
            }
        }

        /** Adds a row of zeros and returns its number; NONE if the table is full. */
        int addRow() {
            if (count >= most) {
                return NONE;
            }
            count++;
            for (int column = 0; column < columns; column++) {
                put(count - 1, column, 0);
            }
            return count - 1;
        }

        /** The row of the thing at a kilometer, which the column KM tells; NONE without one. */
        int rowAt(int km) {
            for (int row = 0; row < count; row++) {
                if (get(row, KM) == km) {
                    return row;
                }
            }
            return NONE;
        }

        int sum(int column) {
            int sum = 0;
            for (int row = 0; row < count; row++) {
                sum += get(row, column);
            }
            return sum;
        }

        void emptyOut() {
            count = 0;
        }

        void copyFrom(Table other) {
            count = other.count;
            System.arraycopy(other.cells, 0, cells, 0, Math.min(other.cells.length, cells.length));
        }
    }

    /** Lines of vehicles in their order, numbered from 0: those of the convoys, or of the bays. */
    private static final class Lines {
        private final int most;
        private final int[] sizes;
        private final int[] cells;

        Lines(int lines, int most) {
            this.most = most;
            this.sizes = new int[Math.max(0, lines)];
            this.cells = new int[Math.max(0, lines * most)];
        }

        int size(int line) {
            return line >= 0 && line < sizes.length ? sizes[line] : 0;
        }

        /** The vehicle at a place of a line; NONE if there is no such line or place. */
        int get(int line, int place) {
            int cell = line * most + place;
            boolean exists = line >= 0 && line < sizes.length && place >= 0 && place < sizes[line];
            return exists && cell >= 0 && cell < cells.length ? cells[cell] : NONE;
        }

        /** Puts another vehicle at a place that is taken; otherwise does nothing. */
        void put(int line, int place, int vehicle) {
            int cell = line * most + place;
            boolean exists = line >= 0 && line < sizes.length && place >= 0 && place < sizes[line];
            if (exists && cell >= 0 && cell < cells.length) {
                cells[cell] = vehicle;
            }
        }

        /** Puts a vehicle at the end of a line, if the line exists and has room. */
        void join(int line, int vehicle) {
            if (line < 0 || line >= sizes.length || sizes[line] >= most) {
                return;
            }
            sizes[line]++;
            put(line, sizes[line] - 1, vehicle);
        }

        /** Takes a vehicle out of a line; those behind it close up. */
        void remove(int line, int place) {
            if (line < 0 || line >= sizes.length || place < 0 || place >= sizes[line]) {
                return;
            }
            for (int i = place; i < sizes[line] - 1; i++) {
                put(line, i, get(line, i + 1));
            }
            sizes[line]--;
        }

        void emptyLine(int line) {
            if (line >= 0 && line < sizes.length) {
                sizes[line] = 0;
            }
        }

        void emptyOut() {
            for (int line = 0; line < sizes.length; line++) {
                sizes[line] = 0;
            }
        }

        void copyFrom(Lines other) {
            System.arraycopy(other.sizes, 0, sizes, 0, Math.min(other.sizes.length, sizes.length));
            System.arraycopy(other.cells, 0, cells, 0, Math.min(other.cells.length, cells.length));
        }
    }

    /** All that undo and restore bring back: the road, what is on it, and how its hours go by. */
    private static final class State {
        final Table gates = new Table(MOST_GATES, 4);
        final Table bays = new Table(MOST_BAYS, 2);
        final Table depots = new Table(MOST_DEPOTS, 2);
        final Table convoys = new Table(MOST_CONVOYS, 4);
        final Table vehicles = new Table(MOST_VEHICLES, 7);
        final Lines inConvoys = new Lines(MOST_CONVOYS, MOST_IN_CONVOY);
        final Lines inBays = new Lines(MOST_BAYS, MOST_PLACES);
        private int length;
        private int hours;

        // For looks ahead, which begin with a copy; no part of what is brought back.
        /**
         * Whether anything happened in the last hour but that convoys stood. Once nothing did, no
         * vehicle moves, is helped or gets fuel any more, and a look ahead can stop.
         */
        private boolean stirs;
        /** The convoy of which the first vehicle left in a bay is noted, and that note. */
        private int watched = NONE;
        private int firstLeft = NONE;

        int length() {
            return length;
        }

        int hours() {
            return hours;
        }

        void begin(int roadLength) {
            length = roadLength;
            hours = 0;
            gates.emptyOut();
            bays.emptyOut();
            depots.emptyOut();
            convoys.emptyOut();
            vehicles.emptyOut();
            inConvoys.emptyOut();
            inBays.emptyOut();
        }

        void copyFrom(State other) {
            length = other.length;
            hours = other.hours;
            gates.copyFrom(other.gates);
            bays.copyFrom(other.bays);
            depots.copyFrom(other.depots);
            convoys.copyFrom(other.convoys);
            vehicles.copyFrom(other.vehicles);
            inConvoys.copyFrom(other.inConvoys);
            inBays.copyFrom(other.inBays);
            stirs = true;
            watched = NONE;
            firstLeft = NONE;
        }

        // ---- new things; the caller has looked whether they are allowed

        int newGate(int km, int period, int closed, int phase) {
            int g = gates.addRow();
            gates.put(g, KM, km);
            gates.put(g, PERIOD, period);
            gates.put(g, CLOSED, closed);
            gates.put(g, PHASE, phase);
            return g;
        }

        int newBay(int km, int places) {
            int b = bays.addRow();
            bays.put(b, KM, km);
            bays.put(b, PLACES, places);
            return b;
        }

        int newDepot(int km, int liters) {
            int d = depots.addRow();
            depots.put(d, KM, km);
            depots.put(d, STOCK, liters);
            return d;
        }

        int newConvoy() {
            return convoys.addRow();
        }

        int newVehicle(int c, int speed, int use, int tank, int liters) {
            int v = vehicles.addRow();
            vehicles.put(v, SPEED, speed);
            vehicles.put(v, USE, use);
            vehicles.put(v, TANK, tank);
            vehicles.put(v, LITERS, liters);
            moveTo(v, IN_CONVOY, c);
            inConvoys.join(c, v);
            return v;
        }

        boolean hasRoomForVehicle(int c) {
            return !vehicles.isFull() && convoys.has(c) && inConvoys.size(c) < MOST_IN_CONVOY;
        }

        // ---- what there is

        boolean isAtEnd(int c) {
            return convoys.get(c, KM) == length;
        }

        /** For how many hours from the next on a gate is closed; 0 if it is open or does not exist. */
        int closedFor(int g) {
            int period = gates.get(g, PERIOD);
            if (period <= 0) {
                return 0;
            }
            int hourOfPeriod = (hours + gates.get(g, PHASE)) % period;
            return Math.max(0, gates.get(g, CLOSED) - hourOfPeriod);
        }

        /** The speed of the slowest vehicle of a convoy; 0 without vehicles. */
        int slowestSpeed(int c) {
            int slowest = 0;
            for (int i = 0; i < inConvoys.size(c); i++) {
                int speed = vehicles.get(inConvoys.get(c, i), SPEED);
                slowest = i == 0 ? speed : Math.min(slowest, speed);
            }
            return slowest;
        }

        int litersWith(int c) {
            int liters = 0;
            for (int i = 0; i < inConvoys.size(c); i++) {
                liters += vehicles.get(inConvoys.get(c, i), LITERS);
            }
            return liters;
        }

        /** How many vehicles are in convoys, in bays, or have arrived, as STAY tells it. */
        int howMany(int stay) {
            int many = 0;
            for (int v = 0; v < vehicles.count(); v++) {
                if (vehicles.get(v, STAY) == stay) {
                    many++;
                }
            }
            return many;
        }

        private boolean hasTooLittle(int v) {
            return vehicles.get(v, LITERS) < vehicles.get(v, USE);
        }

        private void moveTo(int v, int stay, int host) {
            vehicles.put(v, STAY, stay);
            vehicles.put(v, HOST, host);
        }

        // ---- an hour

        /** Lets hours go by, if so many may go by at once; tells whether they may. */
        boolean letGoBy(int manyHours) {
            if (!isWithin(manyHours, 1, MOST_HOURS)) {
                return false;
            }
            for (int i = 0; i < manyHours; i++) {
                letHourGoBy();
            }
            return true;
        }

        void letHourGoBy() {
            stirs = false;
            for (int c = 0; c < convoys.count(); c++) {
                if (inConvoys.size(c) > 0 && !isAtEnd(c)) {
                    drive(c);
                }
            }
            hours++;
        }

        private void drive(int c) {
            if (convoys.get(c, HELD) > 0) {
                convoys.raise(c, HELD, -1);
                stirs = true;
                return;
            }
            fillUp(c);
            int speed = slowestSpeed(c);
            for (int i = 0; i < speed && !isAtEnd(c) && !waitsAtGate(c); i++) {
                leaveStragglers(c);
                if (stands(c)) {
                    return;
                }
                goOn(c);
                if (rescues(c)) {
                    putInOrder(c);
                }
            }
        }

        private void fillUp(int c) {
            int d = depots.rowAt(convoys.get(c, KM));
            if (d == NONE) {
                return;
            }
            for (int i = 0; i < inConvoys.size(c); i++) {
                int v = inConvoys.get(c, i);
                int room = vehicles.get(v, TANK) - vehicles.get(v, LITERS);
                int liters = Math.min(room, depots.get(d, STOCK));
                vehicles.raise(v, LITERS, liters);
                depots.raise(d, STOCK, -liters);
                stirs = stirs || liters > 0;
            }
        }

        /** Whether the gate ahead is closed; if so, counts the hour that the convoy waits. */
        private boolean waitsAtGate(int c) {
            int g = gates.rowAt(convoys.get(c, KM) + 1);
            if (closedFor(g) == 0) {
                return false;
            }
            convoys.raise(c, WAITED, 1);
            stirs = true;
            return true;
        }

        /** Leaves the vehicles with too little fuel in the bay, if there is one, while it has room. */
        private void leaveStragglers(int c) {
            int b = bays.rowAt(convoys.get(c, KM));
            int free = b == NONE ? 0 : bays.get(b, PLACES) - inBays.size(b);
            int many = inConvoys.size(c);
            int place = 0;
            for (int i = 0; i < many && free > 0; i++) {
                int v = inConvoys.get(c, place);
                if (hasTooLittle(v)) {
                    inConvoys.remove(c, place);
                    inBays.join(b, v);
                    moveTo(v, IN_BAY, b);
                    noteLeft(c, b, v);
                    free--;
                } else {
                    place++;
                }
            }
        }

        /** Whether a convoy has nobody left or one with too little fuel; if so, counts the hour. */
        private boolean stands(int c) {
            boolean stands = inConvoys.size(c) == 0;
            for (int i = 0; i < inConvoys.size(c); i++) {
                stands = stands || hasTooLittle(inConvoys.get(c, i));
            }
            if (stands) {
                convoys.raise(c, STOOD, 1);
            }
            return stands;
        }

        private void noteLeft(int c, int b, int v) {
            stirs = true;
            if (c == watched && firstLeft == NONE) {
                firstLeft = 100 * b + v;
            }
        }

        private void goOn(int c) {
            stirs = true;
            convoys.raise(c, KM, 1);
            boolean ends = isAtEnd(c);
            for (int i = 0; i < inConvoys.size(c); i++) {
                int v = inConvoys.get(c, i);
                int use = vehicles.get(v, USE);
                vehicles.raise(v, LITERS, -use);
                vehicles.raise(v, BURNT, use);
                if (ends) {
                    moveTo(v, ARRIVED, NONE);
                }
            }
            if (ends) {
                inConvoys.emptyLine(c);
            }
        }

        /** Helps those who wait in the bay where a convoy is; tells whether one of them joined it. */
        private boolean rescues(int c) {
            int b = bays.rowAt(convoys.get(c, KM));
            int waiting = inBays.size(b);
            int before = inConvoys.size(c);
            boolean helps = true;
            for (int i = 0; i < waiting && helps && inConvoys.size(c) < MOST_IN_CONVOY; i++) {
                int v = inBays.get(b, 0);
                giveFuel(richest(c), v);
                helps = !hasTooLittle(v);
                if (helps) {
                    inBays.remove(b, 0);
                    inConvoys.join(c, v);
                    moveTo(v, IN_CONVOY, c);
                }
            }
            return inConvoys.size(c) > before;
        }

        /** The vehicle of a convoy with the most liters, the first of several. */
        private int richest(int c) {
            int richest = inConvoys.get(c, 0);
            for (int i = 1; i < inConvoys.size(c); i++) {
                int v = inConvoys.get(c, i);
                if (vehicles.get(v, LITERS) > vehicles.get(richest, LITERS)) {
                    richest = v;
                }
            }
            return richest;
        }

        private void giveFuel(int from, int to) {
            int room = vehicles.get(to, TANK) - vehicles.get(to, LITERS);
            int offer = Math.min(vehicles.get(from, LITERS) / 2, MOST_GIFT);
            int gift = Math.min(offer, room);
            vehicles.raise(from, LITERS, -gift);
            vehicles.raise(to, LITERS, gift);
        }

        /** Puts a convoy in the order of the speeds, and of the numbers where these are the same. */
        private void putInOrder(int c) {
            for (int i = 1; i < inConvoys.size(c); i++) {
                int v = inConvoys.get(c, i);
                int place = i;
                while (place > 0 && comesAhead(v, inConvoys.get(c, place - 1))) {
                    inConvoys.put(c, place, inConvoys.get(c, place - 1));
                    place--;
                }
                inConvoys.put(c, place, v);
            }
        }

        private boolean comesAhead(int v, int w) {
            int speed = vehicles.get(v, SPEED);
            int other = vehicles.get(w, SPEED);
            return speed < other || speed == other && v < w;
        }

        // ---- looks ahead; these let the hours of this state go by

        /** Behind how many hours a convoy is at the end of the road; NONE if it comes too late. */
        int hoursToEnd(int c) {
            for (int h = 0; h <= HOURS_AHEAD && stirs; h++) {
                if (isAtEnd(c)) {
                    return h;
                }
                letHourGoBy();
            }
            return NONE;
        }

        /** 100 * (bay) + (vehicle) of the first vehicle that a convoy leaves; NONE without one. */
        int firstLeftBy(int c) {
            watched = c;
            for (int h = 0; h < HOURS_AHEAD && stirs && firstLeft == NONE; h++) {
                letHourGoBy();
            }
            return firstLeft;
        }

        boolean allArrive() {
            for (int h = 0; h < HOURS_AHEAD && stirs; h++) {
                letHourGoBy();
            }
            return howMany(ARRIVED) == vehicles.count();
        }

        // ---- scripts and simulations; these too change this state

        /** Does what a command of five digits says; false if it fails. */
        boolean obeys(int group) {
            int thing = group / 1000 % 10;
            int third = group / 100 % 10;
            int fourth = group / 10 % 10;
            int last = group % 10;
            int two = group % 100;
            int three = group % 1000;
            int v = group / 100 % 100;
            switch (group / 10000) {
                case 1: return thing == 0 && third == 0 && letGoBy(two);
                case 2: return third == 0 && obeysHold(thing, two);
                case 3: return obeysSupply(thing, three);
                case 4: return third == 0 && convoys.has(thing) && convoys.get(thing, KM) >= two;
                case 5: return vehicles.has(v) && vehicles.get(v, LITERS) >= two;
                case 6: return fourth == 0 && vehicles.has(v) && vehicles.get(v, STAY) == last;
                case 7: return two <= 1 && third == 0 && gates.has(thing)
                        && (closedFor(thing) > 0) == (last == 1);
                case 8: return third == 0 && fourth == 0 && bays.has(thing)
                        && inBays.size(thing) >= last;
                case 9: return thing == 0 && third == 0 && howMany(ARRIVED) >= two;
                default: return false;
            }
        }

        private boolean obeysHold(int c, int manyHours) {
            if (!convoys.has(c) || !isWithin(manyHours, 0, MOST_HELD)) {
                return false;
            }
            convoys.put(c, HELD, manyHours);
            return true;
        }

        private boolean obeysSupply(int d, int liters) {
            if (!depots.has(d) || !isWithin(liters, 1, MOST_SUPPLY)
                    || depots.get(d, STOCK) + liters > MOST_STOCK) {
                return false;
            }
            depots.raise(d, STOCK, liters);
            return true;
        }

        /** What a random number, 0 or more, does ahead of an hour. */
        void meetChance(int r) {
            int manyConvoys = convoys.count();
            int manyDepots = depots.count();
            if (r % 5 == 0 && manyConvoys > 0) {
                convoys.put(r / 8 % manyConvoys, HELD, r / 64 % 6);
            }
            if (r % 5 == 1 && manyDepots > 0) {
                int d = r / 8 % manyDepots;
                depots.put(d, STOCK, Math.min(MOST_STOCK, depots.get(d, STOCK) + r / 64 % 30));
            }
        }
    }

    /** Numbered places for copies of states; a place's copy is made once and used again. */
    private static final class Shelf {
        private final State[] copies;
        private final boolean[] taken;

        Shelf(int places) {
            copies = new State[Math.max(0, places)];
            taken = new boolean[Math.max(0, places)];
            for (int i = 0; i < copies.length; i++) {
                copies[i] = new State();
            }
        }

        boolean holds(int place) {
            return place >= 0 && place < taken.length && taken[place];
        }

        void keep(int place, State state) {
            State copy = copyAt(place);
            if (copy != null && place >= 0 && place < taken.length) {
                copy.copyFrom(state);
                taken[place] = true;
            }
        }

        void giveBack(int place, State state) {
            State copy = copyAt(place);
            if (copy != null) {
                state.copyFrom(copy);
            }
        }

        void emptyOut() {
            for (int i = 0; i < taken.length; i++) {
                taken[i] = false;
            }
        }

        private State copyAt(int place) {
            return place >= 0 && place < copies.length ? copies[place] : null;
        }
    }

    /** The remembered states. They go round on a shelf, so that a new one takes the oldest's place. */
    private static final class History {
        private final Shelf shelf = new Shelf(MOST_REMEMBERED);
        private int next;
        private int size;

        int size() {
            return size;
        }

        void remember(State state) {
            shelf.keep(next, state);
            next = (next + 1) % MOST_REMEMBERED;
            size = Math.min(size + 1, MOST_REMEMBERED);
        }

        void takeBack(State state) {
            if (size > 0) {
                next = (next + MOST_REMEMBERED - 1) % MOST_REMEMBERED;
                size--;
                shelf.giveBack(next, state);
            }
        }

        void forget() {
            size = 0;
        }
    }

    /** The text buffer, and how a journey is read from it. */
    private static final class JourneyText {
        private final char[] signs = new char[MOST_SIGNS];
        private int length;
        /** How far the text has been read; once it is wrong, this is the error position. */
        private int at;
        private boolean wrong;

        boolean isFull() {
            return length >= MOST_SIGNS;
        }

        int addSign(char sign) {
            if (length >= 0 && length < signs.length) {
                signs[length] = sign;
                length++;
            }
            return length;
        }

        int emptyOut() {
            int before = length;
            length = 0;
            return before;
        }

        /** Reads the journey into a state. Returns the error position; NONE if it is a journey. */
        int readInto(State state) {
            at = 0;
            wrong = signAt() != 'W';
            if (!wrong) {
                at++;
            }
            int roadLength = number(2, LEAST_LENGTH, MOST_LENGTH);
            state.begin(roadLength);
            for (int i = 0; i < MOST_SIGNS && at < length && !wrong; i++) {
                readPart(state);
            }
            return wrong ? at : NONE;
        }

        private int signAt() {
            return at >= 0 && at < length && at < signs.length ? signs[at] : NONE;
        }

        private void readPart(State state) {
            int letter = signAt();
            wrong = !isAllowed(letter, state);
            if (wrong) {
                return;
            }
            at++;
            switch (letter) {
                case 'g':
                    readGate(state);
                    break;
                case 'b':
                    readBay(state);
                    break;
                case 'd':
                    readDepot(state);
                    break;
                case 'c':
                    state.newConvoy();
                    break;
                default:
                    readVehicle(state);
                    break;
            }
        }

        private boolean isAllowed(int letter, State state) {
            switch (letter) {
                case 'g': return !state.gates.isFull();
                case 'b': return !state.bays.isFull();
                case 'd': return !state.depots.isFull();
                case 'c': return !state.convoys.isFull();
                case 'v': return state.hasRoomForVehicle(state.convoys.count() - 1);
                default: return false;
            }
        }

        private void readGate(State state) {
            int km = kilometer(state.gates, 1, state.length() - 1);
            int period = number(2, LEAST_PERIOD, MOST_PERIOD);
            int closed = number(2, 0, period - 1);
            int phase = number(2, 0, period - 1);
            if (!wrong) {
                state.newGate(km, period, closed, phase);
            }
        }

        private void readBay(State state) {
            int km = kilometer(state.bays, 1, state.length() - 1);
            int places = number(1, 1, MOST_PLACES);
            if (!wrong) {
                state.newBay(km, places);
            }
        }

        private void readDepot(State state) {
            int km = kilometer(state.depots, 0, state.length());
            int liters = number(3, 0, MOST_STOCK);
            if (!wrong) {
                state.newDepot(km, liters);
            }
        }

        private void readVehicle(State state) {
            int speed = number(1, 1, MOST_SPEED);
            int use = number(1, 1, MOST_USE);
            int tank = number(2, LEAST_TANK, MOST_TANK);
            int liters = number(2, 0, tank);
            if (!wrong) {
                state.newVehicle(state.convoys.count() - 1, speed, use, tank, liters);
            }
        }

        /** Reads a kilometer at which there is nothing of the kind yet. */
        private int kilometer(Table kind, int least, int most) {
            int km = number(2, least, most);
            if (!wrong && kind.rowAt(km) != NONE) {
                wrong = true;
                at--;
            }
            return km;
        }

        /**
         * Reads a number of so many digits. A digit is wrong if none of the numbers that begin with
         * it and those before it lies between the least and the most. Reads nothing once wrong.
         */
        private int number(int digits, int least, int most) {
            int number = 0;
            int span = 1;
            for (int i = 1; i < digits; i++) {
                span *= 10;
            }
            for (int i = 0; i < digits && !wrong; i++) {
                int digit = signAt() - '0';
                int first = (number * 10 + digit) * span;
                wrong = !isWithin(digit, 0, 9) || first > most || first + span - 1 < least;
                if (!wrong) {
                    number = number * 10 + digit;
                    at++;
                    span /= 10;
                }
            }
            return number;
        }
    }
}
