import java.util.NoSuchElementException;

/** A census of invisible tenants. */
public final class TenantCensus {
    private static final int NONE = -1;

    private static final int FLOORS = 6;
    private static final int MOST_FLATS = 6;
    private static final int MOST_TENANTS = 6;
    private static final int MOST_RENT = 99;
    private static final int MOST_WEIGHT = 50;
    private static final int MOST_INCOME = 40;
    private static final int MOST_COINS = 99;
    private static final int MOST_MONTHS = 24;
    private static final int BURDEN_OF_A_FLOOR = 3;
    private static final int NOTICES_OF_EVICTION = 2;
    // Moves and requests alike: no tenant moves into a flat, or asks for it, twice in a chain or a plan.
    private static final int MOST_MOVES = MOST_TENANTS * MOST_FLATS;

    private static final int MOST_TYPED = 60;
    private static final int TEXT_ROOM = 128;
    private static final int MOST_VALUES = 4;
    private static final int MOST_UNDONE = 8;

    private static final Kind[] KINDS = Kind.values();

    private final House house = new House();
    // The house before a program, or one in which a prediction is tried out.
    private final House spare = new House();
    private final House saved = new House();
    private final History history = new History();
    private final Planner planner = new Planner();
    private final Spreader spreader = new Spreader();
    private final Parser parser = new Parser();
    private final Text program = new Text();
    private final Text line = new Text();
    private boolean hasSaved = false;
    private int recordedError = NONE;
    private int recordedFailure = NONE;

    public TenantCensus() {
    }

    // ---- changes

    public int addFlat(int floor, int rent) throws IllegalArgumentException, IllegalStateException {
        refuse(house.refusalOfFlat(floor, rent));
        history.push(house);
        return house.buildFlat(floor, rent);
    }

    public int addTenant(int weight, int wish, int income, int purse)
            throws IllegalArgumentException, IllegalStateException {
        refuse(house.refusalOfTenant(weight, wish, income, purse));
        history.push(house);
        return house.welcome(weight, wish, income, purse);
    }

    public int removeTenant(int tenant) throws NoSuchElementException, IllegalStateException {
        refuse(house.refusalOfGoing(tenant));
        history.push(house);
        return house.sendAway(house.slotOf(tenant));
    }

    public int moveIn(int tenant, int flat) throws NoSuchElementException, IndexOutOfBoundsException,
            IllegalStateException, UnsupportedOperationException {
        refuse(house.refusalOfMovingIn(tenant, flat));
        history.push(house);
        return house.lodge(house.slotOf(tenant), flat);
    }

    public int moveOut(int tenant) throws NoSuchElementException, IllegalStateException {
        refuse(house.refusalOfMovingOut(tenant));
        history.push(house);
        return house.leaveHome(house.slotOf(tenant));
    }

    public int setRent(int flat, int rent) throws IndexOutOfBoundsException, IllegalArgumentException {
        refuse(house.refusalOfRent(flat, rent));
        history.push(house);
        return house.changeRent(flat, rent);
    }

    public int give(int tenant, int coins) throws NoSuchElementException, IllegalArgumentException {
        refuse(house.refusalOfGift(tenant, coins));
        history.push(house);
        return house.receive(house.slotOf(tenant), coins);
    }

    public int settle() {
        history.push(house);
        return house.liveBy(planner.planByAsking(house));
    }

    public int pass(int months) throws IllegalArgumentException {
        refuse(house.refusalOfMonths(months));
        history.push(house);
        return house.letMonthsPass(months);
    }

    // ---- flats

    public int flats() {
        return house.flatCount;
    }

    public int floorOf(int flat) throws IndexOutOfBoundsException {
        requireFlat(flat);
        return house.floors[flat];
    }

    public int rentOf(int flat) throws IndexOutOfBoundsException {
        requireFlat(flat);
        return house.rents[flat];
    }

    public int tenantIn(int flat) throws IndexOutOfBoundsException, NoSuchElementException {
        requireFlat(flat);
        int slot = house.slotIn(flat);
        if (slot == NONE) {
            throw new NoSuchElementException("the flat is vacant");
        }
        return house.numbers[slot];
    }

    public int vacantFlats() {
        return house.flatCount - house.housedCount();
    }

    // ---- tenants

    public int tenants() {
        return house.tenantCount;
    }

    public boolean isPresent(int tenant) {
        return house.slotOf(tenant) != NONE;
    }

    public int weightOf(int tenant) throws NoSuchElementException {
        return house.weights[presentSlot(tenant)];
    }

    public int purseOf(int tenant) throws NoSuchElementException {
        return house.purses[presentSlot(tenant)];
    }

    public int noticesOf(int tenant) throws NoSuchElementException {
        return house.notices[presentSlot(tenant)];
    }

    public int flatOf(int tenant) throws NoSuchElementException {
        return house.homes[housedSlot(tenant)];
    }

    public int burden(int tenant, int flat) throws NoSuchElementException, IndexOutOfBoundsException {
        int slot = presentSlot(tenant);
        requireFlat(flat);
        return house.burdenFor(slot, flat);
    }

    public int flatByRank(int tenant, int rank) throws NoSuchElementException {
        int slot = presentSlot(tenant);
        for (int flat = 0; flat < house.flatCount; flat++) {
            if (house.rankFor(slot, flat) == rank) {
                return flat;
            }
        }
        throw new NoSuchElementException("no such rank");
    }

    public int tenantByPurse(int rank) throws NoSuchElementException {
        for (int slot = 0; slot < house.tenantCount; slot++) {
            if (house.rankByPurse(slot) == rank) {
                return house.numbers[slot];
            }
        }
        throw new NoSuchElementException("no such rank");
    }

    // ---- creaks and censuses

    public int creak(int floor) throws IndexOutOfBoundsException {
        requireFloor(floor);
        return house.creakOn(floor);
    }

    public int censuses() {
        return spreader.countByTrying(house);
    }

    public int censusesBySets() {
        return spreader.countBySets(house);
    }

    public int possibleFloors(int tenant) throws NoSuchElementException {
        return spreader.countFloors(house, presentSlot(tenant));
    }

    // ---- plans and predictions

    public int plannedFlat(int tenant) throws NoSuchElementException {
        int slot = presentSlot(tenant);
        return requireGiven(planner.planByAsking(house)[slot]);
    }

    public int plannedFlatByPlans(int tenant) throws NoSuchElementException {
        int slot = presentSlot(tenant);
        return requireGiven(planner.planByPlans(house)[slot]);
    }

    public int stablePlans() {
        return planner.countStable(house);
    }

    public boolean isStable() {
        return planner.isHouseStable(house);
    }

    public int chainLength(int tenant) throws NoSuchElementException {
        int slot = housedSlot(tenant);
        spare.copyFrom(house);
        return spare.leaveHome(slot);
    }

    public int monthsUntilEviction() throws NoSuchElementException {
        spare.copyFrom(house);
        for (int months = 1; months <= MOST_MONTHS; months++) {
            if (spare.letMonthsPass(1) > 0) {
                return months;
            }
        }
        throw new NoSuchElementException("no tenant is evicted in these months");
    }

    // ---- accounts

    public int month() {
        return house.monthCount;
    }

    public long received() {
        return house.coinsReceived;
    }

    public long receivedByParts() {
        return house.sumOfParts();
    }

    public int paidRents() {
        return house.coinsPaid;
    }

    public int evictions() {
        return house.evictionCount;
    }

    public double meanBurden() throws ArithmeticException {
        int count = house.housedCount();
        if (count == 0) {
            throw new ArithmeticException("nobody lives in a flat");
        }
        return (double) house.sumOfBurdens() / (double) count;
    }

    public float occupancy() throws ArithmeticException {
        int count = house.flatCount;
        if (count == 0) {
            throw new ArithmeticException("there are no flats");
        }
        return (float) house.housedCount() / (float) count;
    }

    public boolean isConsistent() {
        return house.isSound()
                && spreader.countByTrying(house) == spreader.countBySets(house)
                && planner.doWaysAgree(house);
    }

    // ---- output

    public int writeFloor(int floor) throws IndexOutOfBoundsException {
        requireFloor(floor);
        line.clear();
        line.appendNumber(floor);
        line.append('~');
        line.appendNumber(house.creakOn(floor));
        for (int flat = 0; flat < house.flatCount; flat++) {
            if (house.floors[flat] == floor) {
                appendFlat(flat);
            }
        }
        return line.length;
    }

    public int writePlan() {
        int[] plan = planner.planByAsking(house);
        line.clear();
        for (int slot = 0; slot < house.tenantCount; slot++) {
            if (slot > 0) {
                line.append(' ');
            }
            line.appendNumber(house.numbers[slot]);
            line.append('>');
            if (plan[slot] == NONE) {
                line.append('-');
            } else {
                line.appendNumber(plan[slot]);
            }
        }
        return line.length;
    }

    public char charAt(int index) throws IndexOutOfBoundsException {
        if (index < 0 || index >= line.length) {
            throw new IndexOutOfBoundsException("no such character");
        }
        return line.signs[index];
    }

    // ---- programs

    public int type(char character) throws IllegalStateException {
        if (program.length >= MOST_TYPED) {
            throw new IllegalStateException("the program buffer is full");
        }
        program.append(character);
        return program.length;
    }

    public int run() throws IllegalArgumentException, UnsupportedOperationException {
        int count = parser.countCommands(program);
        if (count == NONE) {
            recordedError = parser.position;
            program.clear();
            throw new IllegalArgumentException("the text is not a program");
        }
        spare.copyFrom(house);
        parser.rewind();
        int done = 0;
        while (done < count && isNextAllowed(done)) {
            perform();
            done++;
        }
        program.clear();
        if (done < count) {
            house.copyFrom(spare);
            recordedFailure = done;
            throw new UnsupportedOperationException("a command fails");
        }
        history.push(spare);
        return count;
    }

    public int errorPosition() throws NoSuchElementException {
        if (recordedError == NONE) {
            throw new NoSuchElementException("every text was a program");
        }
        return recordedError;
    }

    public int failedCommand() throws NoSuchElementException {
        if (recordedFailure == NONE) {
            throw new NoSuchElementException("no command failed");
        }
        return recordedFailure;
    }

    // ---- undo and snapshots

    public int undo() throws IllegalStateException {
        if (history.count == 0) {
            throw new IllegalStateException("no change can be undone");
        }
        history.popInto(house);
        return history.count;
    }

    public int save() {
        saved.copyFrom(house);
        hasSaved = true;
        return saved.tenantCount;
    }

    public int restore() throws IllegalStateException {
        if (!hasSaved) {
            throw new IllegalStateException("no state was saved");
        }
        house.copyFrom(saved);
        history.forget();
        return house.tenantCount;
    }

    // ---- what the calls share

    private static void refuse(Refusal refusal) {
        switch (refusal) {
            case NO_TENANT:
                throw new NoSuchElementException("no such tenant");
            case NO_FLAT:
                throw new IndexOutOfBoundsException("no such flat");
            case OUT_OF_RANGE:
                throw new IllegalArgumentException("an argument is out of range");
            case WRONG_STATE:
                throw new IllegalStateException("not in this state of the house");
            case TOO_DEAR:
                throw new UnsupportedOperationException("the tenant cannot afford the flat");
            default:
                break;
        }
    }

    private void requireFlat(int flat) {
        if (!house.hasFlat(flat)) {
            throw new IndexOutOfBoundsException("no such flat");
        }
    }

    private static void requireFloor(int floor) {
        if (!isWithin(floor, 0, FLOORS - 1)) {
            throw new IndexOutOfBoundsException("no such floor");
        }
    }

    private static int requireGiven(int flat) {
        if (flat == NONE) {
            throw new NoSuchElementException("the best plan gives no flat to the tenant");
        }
        return flat;
    }

    private int presentSlot(int tenant) {
        int slot = house.slotOf(tenant);
        if (slot == NONE) {
            throw new NoSuchElementException("no such tenant");
        }
        return slot;
    }

    private int housedSlot(int tenant) {
        int slot = presentSlot(tenant);
        if (house.homes[slot] == NONE) {
            throw new NoSuchElementException("the tenant lives in no flat");
        }
        return slot;
    }

    private static boolean isWithin(int value, int least, int most) {
        return value >= least && value <= most;
    }

    private static void fill(int[] row, int value) {
        for (int index = 0; index < row.length; index++) {
            row[index] = value;
        }
    }

    private void appendFlat(int flat) {
        line.append(' ');
        line.appendNumber(flat);
        line.append('=');
        line.appendNumber(house.rents[flat]);
        int slot = house.slotIn(flat);
        if (slot != NONE) {
            line.append(':');
            line.appendNumber(house.numbers[slot]);
        }
    }

    private boolean isNextAllowed(int index) {
        parser.readCommand(program, index);
        return refusalOfCommand(parser.values) == Refusal.NOTHING;
    }

    private Refusal refusalOfCommand(int[] values) {
        switch (parser.kind) {
            case FLAT:
                return house.refusalOfFlat(values[0], values[1]);
            case TENANT:
                return house.refusalOfTenant(values[0], values[1], values[2], values[3]);
            case IN:
                return house.refusalOfMovingIn(values[0], values[1]);
            case OUT:
                return house.refusalOfMovingOut(values[0]);
            case RENT:
                return house.refusalOfRent(values[0], values[1]);
            case GIFT:
                return house.refusalOfGift(values[0], values[1]);
            case MONTH:
                return house.refusalOfMonths(values[0]);
            default:
                return Refusal.NOTHING;
        }
    }

    private void perform() {
        int[] values = parser.values;
        switch (parser.kind) {
            case FLAT:
                house.buildFlat(values[0], values[1]);
                break;
            case TENANT:
                house.welcome(values[0], values[1], values[2], values[3]);
                break;
            case IN:
                house.lodge(house.slotOf(values[0]), values[1]);
                break;
            case OUT:
                house.leaveHome(house.slotOf(values[0]));
                break;
            case RENT:
                house.changeRent(values[0], values[1]);
                break;
            case GIFT:
                house.receive(house.slotOf(values[0]), values[1]);
                break;
            case SETTLE:
                house.liveBy(planner.planByAsking(house));
                break;
            case MONTH:
                house.letMonthsPass(values[0]);
                break;
            default:
                break;
        }
    }

    /** Why a change is refused. */
    private enum Refusal {
        NOTHING, NO_TENANT, NO_FLAT, OUT_OF_RANGE, WRONG_STATE, TOO_DEAR
    }

    /** The commands of programs; in their forms, # stands for a digit and % for a number. */
    private enum Kind {
        FLAT("flat #=%"),
        TENANT("tenant %@#+%/%"),
        IN("in %>#"),
        OUT("out %"),
        RENT("rent #=%"),
        GIFT("gift %+%"),
        SETTLE("settle"),
        MONTH("month");

        final String form;

        Kind(String form) {
            this.form = form;
        }
    }

    /**
     * The state that can be undone and saved. The present tenants stand in slots without gaps, in
     * the order of their numbers.
     */
    private static final class House {
        int flatCount = 0;
        final int[] floors = new int[MOST_FLATS];
        final int[] rents = new int[MOST_FLATS];
        int tenantCount = 0;
        int nextNumber = 0;
        final int[] numbers = new int[MOST_TENANTS];
        final int[] weights = new int[MOST_TENANTS];
        final int[] wishes = new int[MOST_TENANTS];
        final int[] incomes = new int[MOST_TENANTS];
        final int[] purses = new int[MOST_TENANTS];
        final int[] notices = new int[MOST_TENANTS];
        final int[] homes = new int[MOST_TENANTS];
        int monthCount = 0;
        int evictionCount = 0;
        int coinsPaid = 0;
        long coinsReceived = 0L;
        long coinsGone = 0L;

        void copyFrom(House other) {
            flatCount = other.flatCount;
            copyRow(other.floors, floors);
            copyRow(other.rents, rents);
            tenantCount = other.tenantCount;
            nextNumber = other.nextNumber;
            copyRow(other.numbers, numbers);
            copyRow(other.weights, weights);
            copyRow(other.wishes, wishes);
            copyRow(other.incomes, incomes);
            copyRow(other.purses, purses);
            copyRow(other.notices, notices);
            copyRow(other.homes, homes);
            monthCount = other.monthCount;
            evictionCount = other.evictionCount;
            coinsPaid = other.coinsPaid;
            coinsReceived = other.coinsReceived;
            coinsGone = other.coinsGone;
        }

        private static void copyRow(int[] from, int[] to) {
            System.arraycopy(from, 0, to, 0, Math.min(from.length, to.length));
        }

        // ---- what is refused

        Refusal refusalOfFlat(int floor, int rent) {
            if (!isWithin(floor, 0, FLOORS - 1) || !isWithin(rent, 1, MOST_RENT)) {
                return Refusal.OUT_OF_RANGE;
            }
            return flatCount >= MOST_FLATS ? Refusal.WRONG_STATE : Refusal.NOTHING;
        }

        Refusal refusalOfTenant(int weight, int wish, int income, int purse) {
            if (!isWithin(weight, 1, MOST_WEIGHT) || !isWithin(wish, 0, FLOORS - 1)
                    || !isWithin(income, 1, MOST_INCOME) || !isWithin(purse, 0, MOST_COINS)) {
                return Refusal.OUT_OF_RANGE;
            }
            return tenantCount >= MOST_TENANTS ? Refusal.WRONG_STATE : Refusal.NOTHING;
        }

        Refusal refusalOfGoing(int tenant) {
            int slot = slotOf(tenant);
            if (slot == NONE) {
                return Refusal.NO_TENANT;
            }
            return homes[slot] != NONE ? Refusal.WRONG_STATE : Refusal.NOTHING;
        }

        Refusal refusalOfMovingIn(int tenant, int flat) {
            int slot = slotOf(tenant);
            if (slot == NONE) {
                return Refusal.NO_TENANT;
            }
            if (!hasFlat(flat)) {
                return Refusal.NO_FLAT;
            }
            if (homes[slot] != NONE || slotIn(flat) != NONE) {
                return Refusal.WRONG_STATE;
            }
            return canAfford(slot, flat) ? Refusal.NOTHING : Refusal.TOO_DEAR;
        }

        Refusal refusalOfMovingOut(int tenant) {
            int slot = slotOf(tenant);
            if (slot == NONE) {
                return Refusal.NO_TENANT;
            }
            return homes[slot] == NONE ? Refusal.WRONG_STATE : Refusal.NOTHING;
        }

        Refusal refusalOfRent(int flat, int rent) {
            if (!hasFlat(flat)) {
                return Refusal.NO_FLAT;
            }
            return isWithin(rent, 1, MOST_RENT) ? Refusal.NOTHING : Refusal.OUT_OF_RANGE;
        }

        Refusal refusalOfGift(int tenant, int coins) {
            if (slotOf(tenant) == NONE) {
                return Refusal.NO_TENANT;
            }
            return isWithin(coins, 1, MOST_COINS) ? Refusal.NOTHING : Refusal.OUT_OF_RANGE;
        }

        Refusal refusalOfMonths(int months) {
            return isWithin(months, 1, MOST_MONTHS) ? Refusal.NOTHING : Refusal.OUT_OF_RANGE;
        }

        // ---- changes that nothing refuses

        int buildFlat(int floor, int rent) {
            int flat = flatCount;
            floors[flat] = floor;
            rents[flat] = rent;
            flatCount++;
            return flat;
        }

        int welcome(int weight, int wish, int income, int purse) {
            int slot = tenantCount;
            numbers[slot] = nextNumber;
            weights[slot] = weight;
            wishes[slot] = wish;
            incomes[slot] = income;
            purses[slot] = purse;
            notices[slot] = 0;
            homes[slot] = NONE;
            tenantCount++;
            nextNumber++;
            coinsReceived += purse;
            return numbers[slot];
        }

        int sendAway(int slot) {
            coinsGone += purses[slot];
            tenantCount--;
            closeGap(numbers, slot);
            closeGap(weights, slot);
            closeGap(wishes, slot);
            closeGap(incomes, slot);
            closeGap(purses, slot);
            closeGap(notices, slot);
            closeGap(homes, slot);
            return tenantCount;
        }

        private static void closeGap(int[] row, int slot) {
            for (int next = slot + 1; next < row.length; next++) {
                row[next - 1] = row[next];
            }
        }

        int lodge(int slot, int flat) {
            homes[slot] = flat;
            return burdenFor(slot, flat);
        }

        int changeRent(int flat, int rent) {
            int previous = rents[flat];
            rents[flat] = rent;
            return previous;
        }

        int receive(int slot, int coins) {
            purses[slot] += coins;
            coinsReceived += coins;
            return purses[slot];
        }

        int liveBy(int[] plan) {
            int changed = 0;
            for (int slot = 0; slot < tenantCount; slot++) {
                if (homes[slot] != plan[slot]) {
                    homes[slot] = plan[slot];
                    changed++;
                }
            }
            return changed;
        }

        int letMonthsPass(int months) {
            int before = evictionCount;
            for (int passed = 0; passed < months; passed++) {
                monthCount++;
                for (int slot = 0; slot < tenantCount; slot++) {
                    takeTurn(slot);
                }
            }
            return evictionCount - before;
        }

        private void takeTurn(int slot) {
            receive(slot, incomes[slot]);
            int flat = homes[slot];
            if (flat == NONE) {
                return;
            }
            if (canAfford(slot, flat)) {
                purses[slot] -= rents[flat];
                coinsPaid += rents[flat];
                notices[slot] = 0;
                return;
            }
            notices[slot]++;
            if (notices[slot] >= NOTICES_OF_EVICTION) {
                evictionCount++;
                leaveHome(slot);
            }
        }

        /** Lets a tenant out and follows the chain, whose length it returns. */
        int leaveHome(int slot) {
            int vacant = homes[slot];
            homes[slot] = NONE;
            notices[slot] = 0;
            int length = 0;
            while (vacant != NONE && length < MOST_MOVES) {
                int mover = candidateFor(vacant, slot);
                if (mover == NONE) {
                    return length;
                }
                int left = homes[mover];
                homes[mover] = vacant;
                vacant = left;
                length++;
            }
            return length;
        }

        private int candidateFor(int vacant, int excluded) {
            int chosen = NONE;
            for (int slot = 0; slot < tenantCount; slot++) {
                boolean candidate = slot != excluded && canAfford(slot, vacant)
                        && (homes[slot] == NONE || prefersFlat(slot, vacant, homes[slot]));
                if (candidate && (chosen == NONE || isPreferredTo(slot, chosen))) {
                    chosen = slot;
                }
            }
            return chosen;
        }

        // ---- flats and tenants

        boolean hasFlat(int flat) {
            return flat >= 0 && flat < flatCount;
        }

        int slotOf(int tenant) {
            for (int slot = 0; slot < tenantCount; slot++) {
                if (numbers[slot] == tenant) {
                    return slot;
                }
            }
            return NONE;
        }

        int slotIn(int flat) {
            for (int slot = 0; slot < tenantCount; slot++) {
                if (homes[slot] == flat) {
                    return slot;
                }
            }
            return NONE;
        }

        int housedCount() {
            int count = 0;
            for (int slot = 0; slot < tenantCount; slot++) {
                if (homes[slot] != NONE) {
                    count++;
                }
            }
            return count;
        }

        int burdenFor(int slot, int flat) {
            int distance = floors[flat] - wishes[slot];
            return rents[flat] + BURDEN_OF_A_FLOOR * (distance < 0 ? -distance : distance);
        }

        boolean canAfford(int slot, int flat) {
            return rents[flat] <= purses[slot];
        }

        boolean prefersFlat(int slot, int flat, int other) {
            int burden = burdenFor(slot, flat);
            int otherBurden = burdenFor(slot, other);
            return burden < otherBurden || burden == otherBurden && flat < other;
        }

        /** Whether flats prefer the one tenant to the other; all flats agree in that. */
        boolean isPreferredTo(int slot, int other) {
            return weights[slot] < weights[other] || weights[slot] == weights[other] && slot < other;
        }

        int rankFor(int slot, int flat) {
            int rank = 0;
            for (int other = 0; other < flatCount; other++) {
                if (prefersFlat(slot, other, flat)) {
                    rank++;
                }
            }
            return rank;
        }

        int rankByPurse(int slot) {
            int rank = 0;
            for (int other = 0; other < tenantCount; other++) {
                if (purses[other] > purses[slot] || purses[other] == purses[slot] && other < slot) {
                    rank++;
                }
            }
            return rank;
        }

        int creakOn(int floor) {
            int sum = 0;
            for (int slot = 0; slot < tenantCount; slot++) {
                int flat = homes[slot];
                if (flat != NONE && floors[flat] == floor) {
                    sum += weights[slot];
                }
            }
            return sum;
        }

        // ---- accounts

        int sumOfBurdens() {
            int sum = 0;
            for (int slot = 0; slot < tenantCount; slot++) {
                if (homes[slot] != NONE) {
                    sum += burdenFor(slot, homes[slot]);
                }
            }
            return sum;
        }

        long sumOfParts() {
            long sum = coinsGone + coinsPaid;
            for (int slot = 0; slot < tenantCount; slot++) {
                sum += purses[slot];
            }
            return sum;
        }

        boolean isSound() {
            if (!isWithin(flatCount, 0, MOST_FLATS) || !isWithin(tenantCount, 0, MOST_TENANTS)) {
                return false;
            }
            for (int flat = 0; flat < flatCount; flat++) {
                if (!isWithin(floors[flat], 0, FLOORS - 1) || !isWithin(rents[flat], 1, MOST_RENT)) {
                    return false;
                }
            }
            for (int slot = 0; slot < tenantCount; slot++) {
                if (!isTenantSound(slot) || !isHomeSound(slot)) {
                    return false;
                }
            }
            return coinsReceived == sumOfParts();
        }

        private boolean isTenantSound(int slot) {
            int before = slot == 0 ? NONE : numbers[slot - 1];
            return numbers[slot] > before && numbers[slot] < nextNumber
                    && isWithin(weights[slot], 1, MOST_WEIGHT)
                    && isWithin(wishes[slot], 0, FLOORS - 1)
                    && isWithin(incomes[slot], 1, MOST_INCOME)
                    && purses[slot] >= 0
                    && isWithin(notices[slot], 0, NOTICES_OF_EVICTION - 1);
        }

        private boolean isHomeSound(int slot) {
            int flat = homes[slot];
            return flat == NONE || hasFlat(flat) && slotIn(flat) == slot;
        }
    }

    /** The houses before the latest changes, in a ring. */
    private static final class History {
        private final House[] houses = new House[MOST_UNDONE];
        private int first = 0;
        int count = 0;

        History() {
            for (int index = 0; index < houses.length; index++) {
                houses[index] = new House();
            }
        }

        void push(House house) {
            houses[(first + count) % MOST_UNDONE].copyFrom(house);
            if (count < MOST_UNDONE) {
                count++;
            } else {
                first = (first + 1) % MOST_UNDONE;
            }
        }

        void popInto(House house) {
            if (count > 0) {
                count--;
                house.copyFrom(houses[(first + count) % MOST_UNDONE]);
            }
        }

        void forget() {
            count = 0;
        }
    }

    /** Finds stable plans; a plan has for each slot the flat that it gives, or NONE. */
    private static final class Planner {
        private final int[][] rankOfFlat = new int[MOST_TENANTS][MOST_FLATS];
        private final int[][] flatAtRank = new int[MOST_TENANTS][MOST_FLATS];
        private final int[] plan = new int[MOST_TENANTS];
        private final int[] holders = new int[MOST_FLATS];
        private final int[] asked = new int[MOST_TENANTS];
        private final int[] best = new int[MOST_TENANTS];
        private int stableCount = 0;

        private void begin(House house) {
            fill(plan, NONE);
            fill(holders, NONE);
            for (int slot = 0; slot < house.tenantCount; slot++) {
                for (int flat = 0; flat < house.flatCount; flat++) {
                    int rank = house.rankFor(slot, flat);
                    rankOfFlat[slot][flat] = rank;
                    flatAtRank[slot][rank] = flat;
                }
            }
        }

        // ---- by asking

        int[] planByAsking(House house) {
            begin(house);
            fill(asked, 0);
            for (int slot = 0; slot < house.tenantCount; slot++) {
                int asker = slot;
                // Nobody asks for a flat twice.
                for (int asks = 0; asks < MOST_MOVES && asker != NONE; asks++) {
                    asker = refusedAfterAsking(house, asker);
                }
            }
            return plan;
        }

        /** The tenant who is refused when the asker asks for the next flat, or NONE. */
        private int refusedAfterAsking(House house, int asker) {
            if (asked[asker] >= house.flatCount) {
                return NONE;
            }
            int flat = flatAtRank[asker][asked[asker]];
            asked[asker]++;
            int holder = holders[flat];
            if (!house.canAfford(asker, flat) || holder != NONE && house.isPreferredTo(holder, asker)) {
                return asker;
            }
            if (holder != NONE) {
                plan[holder] = NONE;
            }
            holders[flat] = asker;
            plan[asker] = flat;
            return holder;
        }

        // ---- by all plans

        int[] planByPlans(House house) {
            tryAll(house);
            return best;
        }

        int countStable(House house) {
            tryAll(house);
            return stableCount;
        }

        private void tryAll(House house) {
            begin(house);
            fill(best, NONE);
            stableCount = 0;
            tryFlats(house, 0);
        }

        private void tryFlats(House house, int slot) {
            if (slot >= house.tenantCount) {
                if (!isFreeFlatWanted(house)) {
                    keepStable(house);
                }
                return;
            }
            tryRest(house, slot, NONE);
            for (int flat = 0; flat < house.flatCount; flat++) {
                if (holders[flat] == NONE && house.canAfford(slot, flat)) {
                    holders[flat] = slot;
                    tryRest(house, slot, flat);
                    holders[flat] = NONE;
                }
            }
        }

        private void tryRest(House house, int slot, int flat) {
            plan[slot] = flat;
            // Plans in which two of the tenants given flats so far clash are not stable, whatever follows.
            if (!clashes(house, slot)) {
                tryFlats(house, slot + 1);
            }
        }

        private void keepStable(House house) {
            stableCount++;
            if (stableCount == 1 || isBetterForAll(house)) {
                System.arraycopy(plan, 0, best, 0, MOST_TENANTS);
            }
        }

        private boolean isBetterForAll(House house) {
            for (int slot = 0; slot < house.tenantCount; slot++) {
                if (rankOf(slot, plan[slot]) > rankOf(slot, best[slot])) {
                    return false;
                }
            }
            return true;
        }

        private int rankOf(int slot, int flat) {
            return flat == NONE ? MOST_FLATS : rankOfFlat[slot][flat];
        }

        // ---- stability

        boolean isHouseStable(House house) {
            begin(house);
            for (int slot = 0; slot < house.tenantCount; slot++) {
                int flat = house.homes[slot];
                if (flat != NONE) {
                    if (!house.canAfford(slot, flat)) {
                        return false;
                    }
                    holders[flat] = slot;
                }
                plan[slot] = flat;
                if (clashes(house, slot)) {
                    return false;
                }
            }
            return !isFreeFlatWanted(house);
        }

        /** Whether one of a tenant and those before this one can get the flat of the other. */
        private boolean clashes(House house, int slot) {
            for (int other = 0; other < slot; other++) {
                int winner = house.isPreferredTo(slot, other) ? slot : other;
                int loser = winner == slot ? other : slot;
                if (plan[loser] != NONE && wants(house, winner, plan[loser])) {
                    return true;
                }
            }
            return false;
        }

        private boolean isFreeFlatWanted(House house) {
            for (int flat = 0; flat < house.flatCount; flat++) {
                for (int slot = 0; slot < house.tenantCount && holders[flat] == NONE; slot++) {
                    if (wants(house, slot, flat)) {
                        return true;
                    }
                }
            }
            return false;
        }

        private boolean wants(House house, int slot, int flat) {
            return house.canAfford(slot, flat) && rankOfFlat[slot][flat] < rankOf(slot, plan[slot]);
        }

        boolean doWaysAgree(House house) {
            tryAll(house);
            // Both ways have rows of their own for their plans.
            planByAsking(house);
            for (int slot = 0; slot < house.tenantCount; slot++) {
                if (plan[slot] != best[slot]) {
                    return false;
                }
            }
            return stableCount >= 1;
        }
    }

    /** Counts the ways to spread tenants over the floors; a set has a bit for each slot. */
    private static final class Spreader {
        private final int[] lacking = new int[FLOORS];
        private final int[] weightOfSet = new int[1 << MOST_TENANTS];
        private final int[] waysOfSet = new int[1 << MOST_TENANTS];

        private void measure(House house) {
            for (int floor = 0; floor < FLOORS; floor++) {
                lacking[floor] = house.creakOn(floor);
            }
        }

        int countByTrying(House house) {
            measure(house);
            return spread(house, lacking, 0, NONE);
        }

        /** The number of ways to spread the tenants from a slot on, but for one who is placed already. */
        private static int spread(House house, int[] lacking, int slot, int placed) {
            if (slot >= house.tenantCount) {
                return 1;
            }
            if (house.homes[slot] == NONE || slot == placed) {
                return spread(house, lacking, slot + 1, placed);
            }
            int weight = house.weights[slot];
            int count = 0;
            for (int floor = 0; floor < lacking.length; floor++) {
                if (lacking[floor] >= weight) {
                    lacking[floor] -= weight;
                    count += spread(house, lacking, slot + 1, placed);
                    lacking[floor] += weight;
                }
            }
            return count;
        }

        int countFloors(House house, int slot) {
            if (house.homes[slot] == NONE) {
                return 0;
            }
            measure(house);
            int weight = house.weights[slot];
            int count = 0;
            for (int floor = 0; floor < FLOORS; floor++) {
                if (lacking[floor] >= weight) {
                    lacking[floor] -= weight;
                    count += spread(house, lacking, 0, slot) > 0 ? 1 : 0;
                    lacking[floor] += weight;
                }
            }
            return count;
        }

        int countBySets(House house) {
            measure(house);
            weighSets(house);
            fill(waysOfSet, 0);
            waysOfSet[0] = 1;
            int housed = housedSet(house);
            for (int floor = 0; floor < FLOORS; floor++) {
                improve(housed, lacking[floor]);
            }
            return waysOfSet[housed];
        }

        private void weighSets(House house) {
            fill(weightOfSet, 0);
            for (int set = 0; set < weightOfSet.length; set++) {
                for (int slot = 0; slot < house.tenantCount; slot++) {
                    if ((set >> slot & 1) == 1) {
                        weightOfSet[set] += house.weights[slot];
                    }
                }
            }
        }

        private static int housedSet(House house) {
            int set = 0;
            for (int slot = 0; slot < house.tenantCount; slot++) {
                if (house.homes[slot] != NONE) {
                    set |= 1 << slot;
                }
            }
            return set;
        }

        /** Adds a floor: larger sets come first, as they need the ways of smaller ones without it. */
        private void improve(int largest, int creak) {
            for (int set = largest; set >= 0; set--) {
                int ways = 0;
                for (int part = 0; part <= set; part++) {
                    if (weightOfSet[part] == creak && (part & set) == part) {
                        ways += waysOfSet[set ^ part];
                    }
                }
                waysOfSet[set] = ways;
            }
        }
    }

    /** A text that may hold any characters. */
    private static final class Text {
        final char[] signs = new char[TEXT_ROOM];
        int length = 0;

        void clear() {
            length = 0;
        }

        void append(char sign) {
            if (length < signs.length) {
                signs[length] = sign;
                length++;
            }
        }

        void appendNumber(int number) {
            int unit = 1;
            while (unit <= number / 10) {
                unit *= 10;
            }
            for (int rest = unit; rest > 0; rest /= 10) {
                append((char) ('0' + number / rest % 10));
            }
        }

        boolean hasAt(int index, char sign) {
            return index >= 0 && index < length && signs[index] == sign;
        }

        int digitAt(int index) {
            if (index < 0 || index >= length || signs[index] < '0' || signs[index] > '9') {
                return NONE;
            }
            return signs[index] - '0';
        }
    }

    /** Reads programs; where the text is wrong, the position stands still. */
    private static final class Parser {
        int position = 0;
        Kind kind = Kind.SETTLE;
        final int[] values = new int[MOST_VALUES];
        private int valueCount = 0;
        private boolean wrong = false;

        void rewind() {
            position = 0;
            wrong = false;
        }

        /** The number of commands, or NONE if the text is no program. */
        int countCommands(Text text) {
            rewind();
            int count = 0;
            do {
                readCommand(text, count);
                count++;
            } while (!wrong && position < text.length && count <= TEXT_ROOM);
            return wrong ? NONE : count;
        }

        void readCommand(Text text, int index) {
            if (index > 0) {
                readSign(text, ';');
            }
            if (!wrong) {
                chooseKind(text);
            }
            valueCount = 0;
            String form = kind.form;
            for (int part = 0; part < form.length() && !wrong; part++) {
                readPart(text, form.charAt(part));
            }
            if (kind == Kind.MONTH && !wrong) {
                readMonths(text);
            }
        }

        private void chooseKind(Text text) {
            for (int index = 0; index < KINDS.length; index++) {
                if (text.hasAt(position, KINDS[index].form.charAt(0))) {
                    kind = KINDS[index];
                    return;
                }
            }
            wrong = true;
        }

        private void readPart(Text text, char part) {
            if (part == '#') {
                readDigit(text);
            } else if (part == '%') {
                readNumber(text);
            } else {
                readSign(text, part);
            }
        }

        private void readMonths(Text text) {
            if (text.hasAt(position, ' ')) {
                position++;
                readNumber(text);
            } else {
                keepValue(1);
            }
        }

        private void readSign(Text text, char sign) {
            if (text.hasAt(position, sign)) {
                position++;
            } else {
                wrong = true;
            }
        }

        private void readDigit(Text text) {
            int digit = text.digitAt(position);
            if (digit == NONE) {
                wrong = true;
            } else {
                position++;
                keepValue(digit);
            }
        }

        private void readNumber(Text text) {
            int tens = text.digitAt(position);
            int ones = text.digitAt(position + 1);
            if (tens == NONE || ones == NONE) {
                readDigit(text);
            } else {
                position += 2;
                keepValue(10 * tens + ones);
            }
        }

        private void keepValue(int value) {
            if (valueCount < values.length) {
                values[valueCount] = value;
                valueCount++;
            }
        }
    }
}
