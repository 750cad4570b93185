import java.util.NoSuchElementException;

/** Promise after promise: ordinary calls, the edges that the document names, and wrong arguments. */
public final class PromisesTest {
    private static final Class<NoSuchElementException> NO_ELEMENT = NoSuchElementException.class;
    private static final Class<IndexOutOfBoundsException> NO_INDEX = IndexOutOfBoundsException.class;
    private static final Class<IllegalArgumentException> BAD_ARGUMENT = IllegalArgumentException.class;
    private static final Class<IllegalStateException> BAD_STATE = IllegalStateException.class;
    private static final Class<UnsupportedOperationException> UNSUPPORTED = UnsupportedOperationException.class;
    private static final Class<ArithmeticException> ARITHMETIC = ArithmeticException.class;
    private static final int LOW = Integer.MIN_VALUE;
    private static final int HIGH = Integer.MAX_VALUE;

    private PromisesTest() {
    }

    public static void main(String[] args) {
        p01NewObject();
        p02AddFlat();
        p03AddTenant();
        p04RemoveTenant();
        p05MoveIn();
        p06MoveOut();
        p07SetRent();
        p08Give();
        p09Settle();
        p10Pass();
        p11To15Flats();
        p16To21Tenants();
        p22Burden();
        p23FlatByRank();
        p24TenantByPurse();
        p25Creak();
        p26To28Censuses();
        p29To31Plans();
        p32IsStable();
        p33ChainLength();
        p34MonthsUntilEviction();
        p35To39Accounts();
        p40MeanBurden();
        p41Occupancy();
        p42IsConsistent();
        p43WriteFloor();
        p44WritePlan();
        p45CharAt();
        p46Type();
        p47Run();
        p47Grammar();
        p48ErrorPosition();
        p49FailedCommand();
        p50Undo();
        p51And52SaveAndRestore();
        Check.end("PromisesTest");
    }

    // ---- helpers

    private static void syntax(String text, int position) {
        TenantCensus x = new TenantCensus();
        Check.fails("run of '" + text + "'", BAD_ARGUMENT, () -> Calls.run(x, text));
        Check.is("error position of '" + text + "'", position, x::errorPosition);
        Check.is("buffer afterwards", 1, () -> x.type('s'));
    }

    private static void line(TenantCensus x, String what, int length, String due) {
        StringBuilder text = new StringBuilder();
        for (int index = 0; index < length; index++) {
            text.append(x.charAt(index));
        }
        Check.same(what, text.toString(), due);
        Check.fails(what + ", behind its end", NO_INDEX, () -> x.charAt(length));
    }

    /** Two flats, 10 on floor 0 and 20 on floor 2, and two tenants living in them. */
    private static TenantCensus twoHoused() {
        TenantCensus x = new TenantCensus();
        x.addFlat(0, 10);
        x.addFlat(2, 20);
        x.addTenant(5, 0, 12, 30);
        x.addTenant(3, 0, 4, 20);
        x.moveIn(0, 0);
        x.moveIn(1, 1);
        return x;
    }

    /** Six flats of rent 1, floors 0 to 5, and six tenants of the weights, each on the floor of the same number. */
    private static TenantCensus sixHoused(int... weights) {
        TenantCensus x = new TenantCensus();
        for (int index = 0; index < 6; index++) {
            x.addFlat(index, 1);
            x.addTenant(weights[index], index, 1, 1);
            x.moveIn(index, index);
        }
        return x;
    }

    // ---- changes

    private static void p01NewObject() {
        TenantCensus x = new TenantCensus();
        Check.is("flats", 0, x::flats);
        Check.is("tenants", 0, x::tenants);
        Check.is("month", 0, x::month);
        Check.is("vacantFlats", 0, x::vacantFlats);
        Check.is("received", 0, x::received);
        Check.is("receivedByParts", 0, x::receivedByParts);
        Check.is("paidRents", 0, x::paidRents);
        Check.is("evictions", 0, x::evictions);
        Check.fails("charAt(0)", NO_INDEX, () -> x.charAt(0));
        Check.fails("undo", BAD_STATE, x::undo);
        Check.fails("restore", BAD_STATE, x::restore);
        Check.fails("errorPosition", NO_ELEMENT, x::errorPosition);
        Check.fails("failedCommand", NO_ELEMENT, x::failedCommand);
        Check.is("settle", 0, x::settle);
        Check.is("pass(1)", 0, () -> x.pass(1));
    }

    private static void p02AddFlat() {
        TenantCensus x = new TenantCensus();
        Check.fails("addFlat(-1, 1)", BAD_ARGUMENT, () -> x.addFlat(-1, 1));
        Check.fails("addFlat(6, 1)", BAD_ARGUMENT, () -> x.addFlat(6, 1));
        Check.fails("addFlat(0, 0)", BAD_ARGUMENT, () -> x.addFlat(0, 0));
        Check.fails("addFlat(0, 100)", BAD_ARGUMENT, () -> x.addFlat(0, 100));
        Check.fails("addFlat(LOW, HIGH)", BAD_ARGUMENT, () -> x.addFlat(LOW, HIGH));
        Check.is("flats after failures", 0, x::flats);
        int[][] flats = {{0, 1}, {5, 99}, {3, 50}, {3, 50}, {2, 7}, {1, 8}};
        for (int index = 0; index < 6; index++) {
            int[] flat = flats[index];
            Check.is("addFlat", index, () -> x.addFlat(flat[0], flat[1]));
        }
        Check.is("floorOf(1)", 5, () -> x.floorOf(1));
        Check.is("rentOf(1)", 99, () -> x.rentOf(1));
        Check.is("all are vacant", 6, x::vacantFlats);
        Check.fails("a seventh flat", BAD_STATE, () -> x.addFlat(0, 1));
        Check.fails("a seventh flat out of range", BAD_ARGUMENT, () -> x.addFlat(0, 100));
        Check.is("flats", 6, x::flats);
    }

    private static void p03AddTenant() {
        TenantCensus x = new TenantCensus();
        int[][] wrong = {
            {0, 0, 1, 0}, {51, 0, 1, 0}, {1, -1, 1, 0}, {1, 6, 1, 0}, {1, 0, 0, 0}, {1, 0, 41, 0}, {1, 0, 1, -1},
            {1, 0, 1, 100}, {LOW, LOW, LOW, LOW}, {HIGH, HIGH, HIGH, HIGH},
        };
        for (int[] w : wrong) {
            Check.fails("addTenant out of range", BAD_ARGUMENT, () -> x.addTenant(w[0], w[1], w[2], w[3]));
        }
        Check.is("the least", 0, () -> x.addTenant(1, 0, 1, 0));
        Check.is("the most", 1, () -> x.addTenant(50, 5, 40, 99));
        Check.is("received", 99, x::received);
        Check.fails("lives in no flat", NO_ELEMENT, () -> x.flatOf(1));
        for (int number = 2; number < 6; number++) {
            int due = number;
            Check.is("addTenant", due, () -> x.addTenant(due, 0, 1, 0));
        }
        Check.fails("a seventh tenant", BAD_STATE, () -> x.addTenant(1, 0, 1, 0));
        Check.fails("a seventh tenant out of range", BAD_ARGUMENT, () -> x.addTenant(0, 0, 1, 0));
        x.removeTenant(3);
        Check.is("numbers are not used again", 6, () -> x.addTenant(1, 0, 1, 0));
        Check.no("3 is gone", x.isPresent(3));
        Check.is("weightOf(4) behind the gap", 4, () -> x.weightOf(4));
    }

    private static void p04RemoveTenant() {
        TenantCensus x = twoHoused();
        x.addTenant(9, 1, 2, 40);
        Check.fails("no such tenant", NO_ELEMENT, () -> x.removeTenant(3));
        Check.fails("a negative tenant", NO_ELEMENT, () -> x.removeTenant(-1));
        Check.fails("a housed tenant", BAD_STATE, () -> x.removeTenant(0));
        Check.is("removeTenant(2)", 2, () -> x.removeTenant(2));
        Check.no("isPresent(2)", x.isPresent(2));
        Check.fails("gone already", NO_ELEMENT, () -> x.removeTenant(2));
        Check.is("the purse is gone, but was received", 90, x::received);
        Check.is("receivedByParts", 90, x::receivedByParts);
        Check.is("purseOf(1)", 20, () -> x.purseOf(1));
        Check.is("flatOf(1)", 1, () -> x.flatOf(1));
        closedGap();
    }

    /** The tenants behind the one who goes keep all that is theirs. */
    private static void closedGap() {
        TenantCensus x = new TenantCensus();
        x.addFlat(4, 20);
        x.addTenant(1, 0, 1, 0);
        x.addTenant(9, 3, 7, 20);
        x.moveIn(1, 0);
        x.pass(2);
        Check.is("a notice", 1, () -> x.noticesOf(1));
        x.removeTenant(0);
        Check.is("weight", 9, () -> x.weightOf(1));
        Check.is("wish", 23, () -> x.burden(1, 0));
        Check.is("notices", 1, () -> x.noticesOf(1));
        Check.is("home", 0, () -> x.flatOf(1));
        Check.is("number", 1, () -> x.tenantIn(0));
        Check.is("purse", 14, () -> x.purseOf(1));
        x.pass(1);
        Check.is("income", 1, () -> x.purseOf(1));
        Check.is("a new one has no notices", 2, () -> x.addTenant(1, 0, 1, 0));
        Check.is("noticesOf(2)", 0, () -> x.noticesOf(2));
        Check.fails("flatOf(2)", NO_ELEMENT, () -> x.flatOf(2));
    }

    private static void p05MoveIn() {
        TenantCensus x = new TenantCensus();
        x.addFlat(4, 30);
        x.addFlat(1, 31);
        x.addTenant(1, 1, 1, 30);
        x.addTenant(1, 1, 1, 99);
        Check.fails("no tenant, no flat", NO_ELEMENT, () -> x.moveIn(2, 7));
        Check.fails("no flat", NO_INDEX, () -> x.moveIn(0, 2));
        Check.fails("a negative flat", NO_INDEX, () -> x.moveIn(0, -1));
        Check.fails("too dear", UNSUPPORTED, () -> x.moveIn(0, 1));
        Check.is("just affordable", 39, () -> x.moveIn(0, 0));
        Check.is("nothing is paid", 30, () -> x.purseOf(0));
        Check.is("flatOf(0)", 0, () -> x.flatOf(0));
        Check.is("tenantIn(0)", 0, () -> x.tenantIn(0));
        Check.fails("housed, and no such flat", NO_INDEX, () -> x.moveIn(0, 2));
        Check.fails("housed, and too dear", BAD_STATE, () -> x.moveIn(0, 1));
        Check.fails("not vacant", BAD_STATE, () -> x.moveIn(1, 0));
        Check.is("moveIn(1, 1)", 31, () -> x.moveIn(1, 1));
        Check.is("vacantFlats", 0, x::vacantFlats);
        TenantCensus y = new TenantCensus();
        y.addFlat(0, 50);
        y.addTenant(1, 0, 1, 50);
        y.addTenant(1, 0, 1, 0);
        y.moveIn(0, 0);
        Check.fails("not vacant, and too dear", BAD_STATE, () -> y.moveIn(1, 0));
    }

    private static void p06MoveOut() {
        TenantCensus x = twoHoused();
        Check.fails("no such tenant", NO_ELEMENT, () -> x.moveOut(2));
        Check.is("moveOut(0), and 1 moves to the better flat", 1, () -> x.moveOut(0));
        Check.is("flatOf(1)", 0, () -> x.flatOf(1));
        Check.fails("flatOf(0)", NO_ELEMENT, () -> x.flatOf(0));
        Check.fails("in no flat", BAD_STATE, () -> x.moveOut(0));
        TenantCensus y = longChain();
        Check.is("moveOut(0) begins a chain", 3, () -> y.moveOut(0));
        Check.is("the lightest moves up", 0, () -> y.flatOf(1));
        Check.is("then the next", 1, () -> y.flatOf(2));
        Check.is("the heaviest follows", 2, () -> y.flatOf(3));
        Check.fails("the one who moved out is no candidate", NO_ELEMENT, () -> y.flatOf(0));
        Check.is("vacantFlats", 0, y::vacantFlats);
        Check.is("the one outside may come back in another chain", 1, () -> y.moveOut(3));
        Check.is("flatOf(0)", 2, () -> y.flatOf(0));
        noticesEndWhenMovingOut();
        equalWeightsInChains();
    }

    /** Tenants 0 to 2 live in flats 0 to 2, which everybody likes in this order; 3 is outside. */
    private static TenantCensus longChain() {
        TenantCensus x = new TenantCensus();
        x.addFlat(0, 1);
        x.addFlat(0, 2);
        x.addFlat(0, 3);
        x.addTenant(9, 0, 1, 50);
        x.addTenant(1, 0, 1, 50);
        x.addTenant(2, 0, 1, 50);
        x.addTenant(3, 0, 1, 50);
        x.moveIn(0, 0);
        x.moveIn(1, 1);
        x.moveIn(2, 2);
        return x;
    }

    private static void noticesEndWhenMovingOut() {
        TenantCensus x = new TenantCensus();
        x.addFlat(0, 9);
        x.addTenant(1, 0, 1, 9);
        x.moveIn(0, 0);
        x.pass(2);
        Check.is("a notice", 1, () -> x.noticesOf(0));
        Check.is("moveOut(0)", 0, () -> x.moveOut(0));
        Check.is("no notices", 0, () -> x.noticesOf(0));
    }

    private static void equalWeightsInChains() {
        TenantCensus x = new TenantCensus();
        x.addFlat(0, 5);
        x.addTenant(4, 0, 1, 9);
        x.addTenant(4, 0, 1, 9);
        x.addTenant(4, 0, 1, 9);
        x.addTenant(1, 0, 1, 4);
        x.moveIn(1, 0);
        Check.is("moveOut(1)", 1, () -> x.moveOut(1));
        Check.is("the smaller number, as the lightest is too poor", 0, () -> x.tenantIn(0));
        TenantCensus y = new TenantCensus();
        y.addFlat(1, 5);
        y.addFlat(1, 5);
        y.addTenant(4, 1, 1, 9);
        y.addTenant(4, 1, 1, 9);
        y.moveIn(0, 1);
        y.moveIn(1, 0);
        Check.is("of equal burdens the smaller flat", 1, () -> y.chainLength(1));
        Check.is("and not the larger one", 0, () -> y.chainLength(0));
    }

    private static void p07SetRent() {
        TenantCensus x = twoHoused();
        Check.fails("no such flat", NO_INDEX, () -> x.setRent(2, 0));
        Check.fails("a negative flat", NO_INDEX, () -> x.setRent(-1, 5));
        Check.fails("rent 0", BAD_ARGUMENT, () -> x.setRent(0, 0));
        Check.fails("rent 100", BAD_ARGUMENT, () -> x.setRent(0, 100));
        Check.is("setRent(0, 99)", 10, () -> x.setRent(0, 99));
        Check.is("setRent(0, 1)", 99, () -> x.setRent(0, 1));
        Check.is("rentOf(0)", 1, () -> x.rentOf(0));
        Check.is("tenantIn(0)", 0, () -> x.tenantIn(0));
    }

    private static void p08Give() {
        TenantCensus x = twoHoused();
        Check.fails("no such tenant", NO_ELEMENT, () -> x.give(2, 0));
        Check.fails("0 coins", BAD_ARGUMENT, () -> x.give(0, 0));
        Check.fails("100 coins", BAD_ARGUMENT, () -> x.give(0, 100));
        Check.is("give(0, 99)", 129, () -> x.give(0, 99));
        Check.is("give(0, 1)", 130, () -> x.give(0, 1));
        Check.is("purseOf(0)", 130, () -> x.purseOf(0));
        Check.is("received", 150, x::received);
        Check.is("receivedByParts", 150, x::receivedByParts);
    }

    private static void p09Settle() {
        TenantCensus x = twoHoused();
        Check.is("both change", 2, x::settle);
        Check.is("flatOf(0)", 1, () -> x.flatOf(0));
        Check.is("flatOf(1)", 0, () -> x.flatOf(1));
        Check.is("nothing more to do", 0, x::settle);
        x.setRent(1, 99);
        Check.is("too dear now: in no flat any more", 1, x::settle);
        Check.fails("flatOf(0)", NO_ELEMENT, () -> x.flatOf(0));
        x.setRent(1, 3);
        Check.is("one moves, and one comes back", 2, x::settle);
        TenantCensus y = new TenantCensus();
        y.addFlat(0, 9);
        y.addTenant(1, 0, 1, 9);
        y.moveIn(0, 0);
        y.pass(2);
        Check.is("settle puts out", 1, y::settle);
        Check.is("notices stay", 1, () -> y.noticesOf(0));
        y.give(0, 8);
        y.moveIn(0, 0);
        Check.is("moving in keeps notices", 1, () -> y.noticesOf(0));
        Check.is("no chain, no eviction", 0, y::evictions);
        y.setRent(0, 99);
        y.settle();
        Check.is("removeTenant(0)", 0, () -> y.removeTenant(0));
        Check.is("another tenant", 1, () -> y.addTenant(1, 0, 1, 0));
        Check.is("has no notices", 0, () -> y.noticesOf(1));
    }

    private static void p10Pass() {
        TenantCensus x = new TenantCensus();
        Check.fails("pass(0)", BAD_ARGUMENT, () -> x.pass(0));
        Check.fails("pass(25)", BAD_ARGUMENT, () -> x.pass(25));
        Check.fails("pass(LOW)", BAD_ARGUMENT, () -> x.pass(LOW));
        Check.is("pass(24)", 0, () -> x.pass(24));
        Check.is("month", 24, x::month);
        TenantCensus y = new TenantCensus();
        y.addFlat(0, 11);
        y.addTenant(1, 0, 1, 20);
        y.addTenant(2, 0, 10, 0);
        y.moveIn(0, 0);
        Check.is("a month: income, then the rent", 0, () -> y.pass(1));
        Check.is("purseOf(0)", 10, () -> y.purseOf(0));
        Check.is("the purse just suffices", 0, () -> y.pass(1));
        Check.is("purseOf(0)", 0, () -> y.purseOf(0));
        Check.is("a notice", 0, () -> y.pass(1));
        Check.is("noticesOf(0)", 1, () -> y.noticesOf(0));
        Check.is("nothing is paid", 1, () -> y.purseOf(0));
        Check.is("evicted", 1, () -> y.pass(1));
        Check.is("noticesOf(0)", 0, () -> y.noticesOf(0));
        Check.is("1 moved in and paid in the same month", 29, () -> y.purseOf(1));
        Check.is("flatOf(1)", 0, () -> y.flatOf(1));
        earlierTenantPaysNothing();
        manyEvictions();
    }

    /** 1 is evicted, and 0 moves in, whose turn has been: 0 pays nothing in this month. */
    private static void earlierTenantPaysNothing() {
        TenantCensus x = new TenantCensus();
        x.addFlat(0, 10);
        x.addTenant(5, 0, 1, 50);
        x.addTenant(4, 0, 1, 10);
        x.moveIn(1, 0);
        Check.is("pass(3)", 1, () -> x.pass(3));
        Check.is("flatOf(0)", 0, () -> x.flatOf(0));
        Check.is("purseOf(0)", 53, () -> x.purseOf(0));
        Check.is("a payment ends the notices", 1, () -> {
            x.moveOut(0);
            x.setRent(0, 1);
            x.moveIn(0, 0);
            x.setRent(0, 99);
            x.pass(1);
            int before = x.noticesOf(0);
            x.setRent(0, 9);
            x.pass(1);
            return before - x.noticesOf(0);
        });
    }

    /** Two poor tenants take turns in a flat that neither can keep. */
    private static void manyEvictions() {
        TenantCensus x = new TenantCensus();
        x.addFlat(3, 30);
        x.addTenant(1, 3, 10, 30);
        x.addTenant(2, 3, 10, 0);
        x.moveIn(0, 0);
        int one = x.monthsUntilEviction();
        Check.is("each is counted as often as it happens", 4, () -> x.pass(24));
        Check.is("evictions", 4, x::evictions);
        Check.is("the first was", 5, () -> one);
        Check.is("receivedByParts", x.received(), x::receivedByParts);
        Check.is("earlier evictions are not counted again", 0, () -> x.pass(1));
    }

    // ---- flats and tenants

    private static void p11To15Flats() {
        TenantCensus x = twoHoused();
        x.addFlat(5, 7);
        Check.is("flats", 3, x::flats);
        Check.is("floorOf(0)", 0, () -> x.floorOf(0));
        Check.is("floorOf(2)", 5, () -> x.floorOf(2));
        Check.is("rentOf(0)", 10, () -> x.rentOf(0));
        Check.is("rentOf(2)", 7, () -> x.rentOf(2));
        Check.is("tenantIn(1)", 1, () -> x.tenantIn(1));
        Check.is("vacantFlats", 1, x::vacantFlats);
        Check.fails("tenantIn a vacant flat", NO_ELEMENT, () -> x.tenantIn(2));
        for (int flat : new int[] {-1, 3, 6, LOW, HIGH}) {
            Check.fails("floorOf", NO_INDEX, () -> x.floorOf(flat));
            Check.fails("rentOf", NO_INDEX, () -> x.rentOf(flat));
            Check.fails("tenantIn", NO_INDEX, () -> x.tenantIn(flat));
        }
        x.moveOut(1);
        Check.is("vacantFlats", 2, x::vacantFlats);
    }

    private static void p16To21Tenants() {
        TenantCensus x = twoHoused();
        x.addTenant(50, 5, 40, 99);
        Check.is("tenants", 3, x::tenants);
        Check.yes("isPresent(2)", x.isPresent(2));
        Check.is("weightOf(2)", 50, () -> x.weightOf(2));
        Check.is("purseOf(2)", 99, () -> x.purseOf(2));
        Check.is("noticesOf(2)", 0, () -> x.noticesOf(2));
        Check.is("flatOf(1)", 1, () -> x.flatOf(1));
        Check.fails("flatOf(2)", NO_ELEMENT, () -> x.flatOf(2));
        for (int tenant : new int[] {-1, 3, LOW, HIGH}) {
            Check.no("isPresent", x.isPresent(tenant));
            Check.fails("weightOf", NO_ELEMENT, () -> x.weightOf(tenant));
            Check.fails("purseOf", NO_ELEMENT, () -> x.purseOf(tenant));
            Check.fails("noticesOf", NO_ELEMENT, () -> x.noticesOf(tenant));
            Check.fails("flatOf", NO_ELEMENT, () -> x.flatOf(tenant));
        }
        x.removeTenant(2);
        Check.is("tenants", 2, x::tenants);
        Check.fails("weightOf(2)", NO_ELEMENT, () -> x.weightOf(2));
    }

    private static void p22Burden() {
        TenantCensus x = new TenantCensus();
        x.addFlat(0, 1);
        x.addFlat(5, 99);
        x.addTenant(1, 5, 1, 0);
        Check.is("a lower floor", 16, () -> x.burden(0, 0));
        Check.is("the wished floor", 99, () -> x.burden(0, 1));
        x.addTenant(1, 3, 1, 0);
        Check.is("a higher floor", 105, () -> x.burden(1, 1));
        Check.fails("no tenant, no flat", NO_ELEMENT, () -> x.burden(2, 2));
        Check.fails("no flat", NO_INDEX, () -> x.burden(0, 2));
        Check.fails("a negative flat", NO_INDEX, () -> x.burden(0, -1));
    }

    private static void p23FlatByRank() {
        TenantCensus x = new TenantCensus();
        x.addTenant(1, 2, 1, 0);
        Check.fails("without flats", NO_ELEMENT, () -> x.flatByRank(0, 0));
        x.addFlat(2, 20);
        x.addFlat(3, 17);
        x.addFlat(1, 17);
        x.addFlat(0, 2);
        int[] order = {3, 0, 1, 2};
        for (int rank = 0; rank < 4; rank++) {
            int at = rank;
            Check.is("flatByRank(0, " + rank + ")", order[rank], () -> x.flatByRank(0, at));
        }
        Check.fails("rank 4", NO_ELEMENT, () -> x.flatByRank(0, 4));
        Check.fails("rank -1", NO_ELEMENT, () -> x.flatByRank(0, -1));
        Check.fails("no tenant", NO_ELEMENT, () -> x.flatByRank(1, 0));
    }

    private static void p24TenantByPurse() {
        TenantCensus x = new TenantCensus();
        Check.fails("without tenants", NO_ELEMENT, () -> x.tenantByPurse(0));
        int[] purses = {5, 9, 5, 0, 9};
        for (int purse : purses) {
            x.addTenant(1, 0, 1, purse);
        }
        int[] order = {1, 4, 0, 2, 3};
        for (int rank = 0; rank < 5; rank++) {
            int at = rank;
            Check.is("tenantByPurse(" + rank + ")", order[rank], () -> x.tenantByPurse(at));
        }
        Check.fails("rank 5", NO_ELEMENT, () -> x.tenantByPurse(5));
        Check.fails("rank -1", NO_ELEMENT, () -> x.tenantByPurse(-1));
        x.removeTenant(1);
        Check.is("after 1 is gone", 4, () -> x.tenantByPurse(0));
    }

    // ---- creaks and censuses

    private static void p25Creak() {
        TenantCensus x = twoHoused();
        x.addFlat(2, 1);
        x.addTenant(50, 0, 1, 9);
        Check.is("creak(0)", 5, () -> x.creak(0));
        Check.is("creak(1)", 0, () -> x.creak(1));
        Check.is("creak(2), not of tenants in no flat", 3, () -> x.creak(2));
        x.moveIn(2, 2);
        Check.is("creak(2)", 53, () -> x.creak(2));
        Check.is("creak(5)", 0, () -> x.creak(5));
        Check.fails("creak(-1)", NO_INDEX, () -> x.creak(-1));
        Check.fails("creak(6)", NO_INDEX, () -> x.creak(6));
    }

    private static void p26To28Censuses() {
        TenantCensus x = sixHoused(7, 7, 7, 7, 7, 7);
        Check.is("six alike", 720, x::censuses);
        Check.is("six alike by sets", 720, x::censusesBySets);
        Check.is("possibleFloors(0)", 6, () -> x.possibleFloors(0));
        TenantCensus y = sixHoused(1, 2, 3, 4, 5, 6);
        Check.is("all different", 1, y::censuses);
        Check.is("possibleFloors of the lightest", 1, () -> y.possibleFloors(0));
        y.moveOut(0);
        Check.is("one fewer", 1, y::censusesBySets);
        Check.is("possibleFloors of one in no flat", 0, () -> y.possibleFloors(0));
        Check.is("possibleFloors(5)", 1, () -> y.possibleFloors(5));
        Check.fails("no such tenant", NO_ELEMENT, () -> y.possibleFloors(6));
        Check.is("by sets first", 720, () -> sixHoused(1, 1, 1, 1, 1, 1).censusesBySets());
        Check.is("possibleFloors first", 6, () -> sixHoused(1, 1, 1, 1, 1, 1).possibleFloors(5));
        TenantCensus z = new TenantCensus();
        z.addFlat(1, 1);
        z.addFlat(1, 1);
        z.addFlat(4, 1);
        z.addTenant(1, 1, 1, 9);
        z.addTenant(2, 1, 1, 9);
        z.addTenant(3, 1, 1, 9);
        z.addTenant(3, 1, 1, 9);
        z.moveIn(0, 0);
        z.moveIn(1, 1);
        z.moveIn(2, 2);
        Check.is("1 + 2 here and 3 there, or the other way round", 2, z::censuses);
        Check.is("the same by sets", 2, z::censusesBySets);
        Check.is("possibleFloors(1)", 2, () -> z.possibleFloors(1));
        Check.is("possibleFloors(3)", 0, () -> z.possibleFloors(3));
        Check.is("without tenants", 1, () -> new TenantCensus().censuses());
        Check.is("without tenants by sets", 1, () -> new TenantCensus().censusesBySets());
    }

    // ---- plans and predictions

    private static void p29To31Plans() {
        TenantCensus x = new TenantCensus();
        x.addFlat(0, 10);
        x.addFlat(1, 12);
        x.addTenant(5, 0, 1, 12);
        x.addTenant(4, 0, 1, 10);
        x.addTenant(4, 0, 1, 99);
        noPlan(x, 0);
        plan(x, 1, 0);
        plan(x, 2, 1);
        x.setRent(0, 11);
        noPlan(x, 1);
        plan(x, 2, 0);
        plan(x, 0, 1);
        x.setRent(1, 10);
        plan(x, 1, 1);
        plan(x, 2, 0);
        noPlan(x, 0);
        noPlan(x, 3);
        noPlan(x, -1);
        Check.is("stablePlans", 1, x::stablePlans);
        Check.is("without flats and tenants", 1, () -> new TenantCensus().stablePlans());
        TenantCensus y = sixHoused(7, 7, 7, 7, 7, 7);
        Check.is("six of each", 1, y::stablePlans);
        plan(y, 0, 0);
        y.settle();
        plan(y, 5, 5);
    }

    private static void plan(TenantCensus x, int tenant, int due) {
        Check.is("plannedFlat(" + tenant + ")", due, () -> x.plannedFlat(tenant));
        Check.is("plannedFlatByPlans(" + tenant + ")", due, () -> x.plannedFlatByPlans(tenant));
    }

    private static void noPlan(TenantCensus x, int tenant) {
        Check.fails("plannedFlat(" + tenant + ")", NO_ELEMENT, () -> x.plannedFlat(tenant));
        Check.fails("plannedFlatByPlans(" + tenant + ")", NO_ELEMENT, () -> x.plannedFlatByPlans(tenant));
    }

    private static void p32IsStable() {
        TenantCensus x = twoHoused();
        Check.no("0 and 1 would change", x.isStable());
        x.settle();
        Check.yes("settled", x.isStable());
        x.addFlat(0, 1);
        Check.no("a free flat is wanted", x.isStable());
        x.settle();
        Check.yes("settled again", x.isStable());
        x.setRent(2, 2);
        Check.yes("still affordable", x.isStable());
        TenantCensus y = new TenantCensus();
        Check.yes("without tenants", y.isStable());
        y.addFlat(0, 10);
        y.addTenant(1, 0, 1, 10);
        Check.no("in no flat, and one is free", y.isStable());
        y.moveIn(0, 0);
        Check.yes("housed", y.isStable());
        y.setRent(0, 11);
        Check.no("cannot afford it now", y.isStable());
        Check.is("but there is a stable plan", 1, y::stablePlans);
    }

    private static void p33ChainLength() {
        TenantCensus x = longChain();
        Check.is("chainLength(0)", 3, () -> x.chainLength(0));
        Check.is("nothing has changed", 0, () -> x.flatOf(0));
        Check.is("chainLength(1)", 2, () -> x.chainLength(1));
        Check.is("chainLength(2)", 1, () -> x.chainLength(2));
        Check.fails("in no flat", NO_ELEMENT, () -> x.chainLength(3));
        Check.fails("no such tenant", NO_ELEMENT, () -> x.chainLength(4));
        Check.is("as moveOut says", 3, () -> x.moveOut(0));
    }

    private static void p34MonthsUntilEviction() {
        TenantCensus x = new TenantCensus();
        Check.fails("without tenants", NO_ELEMENT, x::monthsUntilEviction);
        x.addFlat(0, 5);
        x.addTenant(1, 0, 1, 88);
        x.moveIn(0, 0);
        Check.is("in the 24th month", 24, x::monthsUntilEviction);
        Check.is("nothing has changed", 0, x::month);
        x.give(0, 4);
        Check.fails("in the 25th", NO_ELEMENT, x::monthsUntilEviction);
        x.pass(1);
        Check.is("in the 24th again", 24, x::monthsUntilEviction);
        x.setRent(0, 99);
        Check.is("in the second", 2, x::monthsUntilEviction);
        x.pass(1);
        Check.is("in the next", 1, x::monthsUntilEviction);
        Check.is("as pass says", 1, () -> x.pass(1));
    }

    // ---- accounts

    private static void p35To39Accounts() {
        TenantCensus x = twoHoused();
        x.pass(2);
        Check.is("month", 2, x::month);
        Check.is("received", 50 + 2 * 16, x::received);
        Check.is("receivedByParts", 82, x::receivedByParts);
        Check.is("paidRents", 10 + 20 + 10, x::paidRents);
        Check.is("evictions", 0, x::evictions);
        x.pass(1);
        Check.is("evictions", 1, x::evictions);
        Check.is("paidRents", 50, x::paidRents);
        x.removeTenant(1);
        Check.is("received with one gone", 98, x::received);
        Check.is("receivedByParts with one gone", 98, x::receivedByParts);
        x.pass(24);
        Check.is("month", 27, x::month);
        Check.is("received", 98 + 24 * 12, x::received);
        Check.is("moving out is no eviction", 1, () -> {
            x.moveOut(0);
            return x.evictions();
        });
    }

    private static void p40MeanBurden() {
        TenantCensus x = new TenantCensus();
        Check.fails("without tenants", ARITHMETIC, () -> (long) x.meanBurden());
        x.addFlat(0, 10);
        x.addFlat(1, 10);
        x.addFlat(2, 11);
        for (int tenant = 0; tenant < 3; tenant++) {
            x.addTenant(1, 0, 1, 50);
        }
        Check.fails("nobody in a flat", ARITHMETIC, () -> (long) x.meanBurden());
        x.moveIn(0, 0);
        Check.same("one", x.meanBurden(), 10.0);
        x.moveIn(1, 1);
        Check.same("two", x.meanBurden(), 11.5);
        x.moveIn(2, 2);
        Check.same("three", x.meanBurden(), 40.0 / 3.0);
    }

    private static void p41Occupancy() {
        TenantCensus x = new TenantCensus();
        Check.fails("no flats", ARITHMETIC, () -> (long) x.occupancy());
        x.addTenant(1, 0, 1, 50);
        Check.fails("no flats, a tenant", ARITHMETIC, () -> (long) x.occupancy());
        x.addFlat(0, 10);
        x.addFlat(0, 10);
        x.addFlat(0, 10);
        Check.same("all vacant", x.occupancy(), 0.0f);
        x.moveIn(0, 2);
        Check.same("a third", x.occupancy(), 1.0f / 3.0f);
    }

    private static void p42IsConsistent() {
        Check.yes("a new object", new TenantCensus().isConsistent());
        TenantCensus x = sixHoused(1, 2, 3, 4, 5, 6);
        Check.yes("six housed", x.isConsistent());
        x.pass(24);
        x.setRent(0, 99);
        Check.yes("a rent that nobody can pay", x.isConsistent());
        x.pass(24);
        x.removeTenant(0);
        Check.yes("after evictions", x.isConsistent());
        x.undo();
        Check.yes("after undo", x.isConsistent());
    }

    // ---- output

    private static void p43WriteFloor() {
        TenantCensus x = new TenantCensus();
        line(x, "an empty floor", x.writeFloor(5), "5~0");
        x.addFlat(2, 12);
        x.addFlat(0, 1);
        x.addFlat(1, 1);
        x.addFlat(2, 9);
        for (int tenant = 0; tenant < 4; tenant++) {
            x.addTenant(37, 0, 1, 20);
        }
        x.removeTenant(0);
        x.addTenant(37, 0, 1, 20);
        x.moveIn(4, 0);
        line(x, "the floor of the document", x.writeFloor(2), "2~37 0=12:4 3=9");
        line(x, "a vacant flat", x.writeFloor(0), "0~0 1=1");
        x.moveIn(2, 3);
        line(x, "two tenants", x.writeFloor(2), "2~74 0=12:4 3=9:2");
        Check.fails("floor -1", NO_INDEX, () -> x.writeFloor(-1));
        Check.fails("floor 6", NO_INDEX, () -> x.writeFloor(6));
        line(x, "the line stays", 17, "2~74 0=12:4 3=9:2");
        TenantCensus y = new TenantCensus();
        for (int flat = 0; flat < 6; flat++) {
            y.addFlat(3, 99);
        }
        for (int tenant = 0; tenant < 110; tenant++) {
            y.addTenant(50, 3, 40, 99);
            if (y.tenants() == 6 && tenant < 109) {
                y.removeTenant(tenant);
            }
        }
        y.moveIn(109, 5);
        line(y, "long numbers", y.writeFloor(3), "3~50 0=99 1=99 2=99 3=99 4=99 5=99:109");
    }

    private static void p44WritePlan() {
        TenantCensus x = new TenantCensus();
        line(x, "without tenants", x.writePlan(), "");
        x.addFlat(0, 10);
        x.addFlat(1, 10);
        x.addFlat(2, 10);
        for (int tenant = 0; tenant < 5; tenant++) {
            x.addTenant(1, tenant == 0 ? 2 : 0, 1, tenant == 3 ? 9 : 10);
        }
        x.removeTenant(1);
        x.removeTenant(2);
        line(x, "the plan of the document", x.writePlan(), "0>2 3>- 4>0");
        x.removeTenant(0);
        x.removeTenant(3);
        line(x, "one tenant", x.writePlan(), "4>0");
        x.removeTenant(4);
        line(x, "all gone", x.writePlan(), "");
    }

    private static void p45CharAt() {
        TenantCensus x = new TenantCensus();
        Check.fails("initially empty", NO_INDEX, () -> x.charAt(0));
        x.writeFloor(4);
        Check.same("charAt(0)", x.charAt(0), '4');
        Check.same("charAt(1)", x.charAt(1), '~');
        Check.same("charAt(2)", x.charAt(2), '0');
        for (int index : new int[] {-1, 3, 60, LOW, HIGH}) {
            Check.fails("charAt", NO_INDEX, () -> x.charAt(index));
        }
        x.writePlan();
        Check.fails("a shorter line", NO_INDEX, () -> x.charAt(0));
    }

    // ---- programs

    private static void p46Type() {
        TenantCensus x = new TenantCensus();
        for (int length = 1; length <= 60; length++) {
            char sign = (char) (length * 1091);
            Check.is("type", length, () -> x.type(sign));
        }
        Check.fails("a full buffer", BAD_STATE, () -> x.type(' '));
        Check.fails("no program", BAD_ARGUMENT, x::run);
        Check.is("the buffer is empty", 1, () -> x.type('s'));
        Check.fails("typing is no change", BAD_STATE, x::undo);
    }

    private static void p47Run() {
        TenantCensus x = new TenantCensus();
        Check.is("flats and tenants", 4, () -> Calls.run(x, "flat 4=9;flat 4=3;tenant 6@4+5/9;tenant 2@0+1/9"));
        Check.is("rentOf(1)", 3, () -> x.rentOf(1));
        Check.is("weightOf(0)", 6, () -> x.weightOf(0));
        Check.is("wish 4", 9, () -> x.burden(0, 0));
        Check.is("purseOf(1)", 9, () -> x.purseOf(1));
        Check.is("in and month", 3, () -> Calls.run(x, "in 0>0;in 1>1;month"));
        Check.is("flatOf(1)", 1, () -> x.flatOf(1));
        Check.is("one month", 1, x::month);
        Check.is("income 5", 5, () -> x.purseOf(0));
        Check.is("out", 1, () -> Calls.run(x, "out 01"));
        Check.is("0 has moved", 1, () -> x.flatOf(0));
        Check.is("rent, gift, settle, month", 4, () -> Calls.run(x, "rent 0=01;gift 01+20;settle;month 02"));
        Check.is("rentOf(0)", 1, () -> x.rentOf(0));
        Check.is("the gift, two incomes, two rents", 7 + 20 + 2 - 2, () -> x.purseOf(1));
        Check.is("months", 3, x::month);
        Check.is("the best flat for the lightest", 0, () -> x.flatOf(1));
        long received = x.received();
        Check.fails("a program that fails", UNSUPPORTED, () -> Calls.run(x, "gift 1+9;flat 0=5;settle;month 3;out 9"));
        Check.is("nothing of it is done", received, x::received);
        Check.is("flats", 2, x::flats);
        Check.is("month", 3, x::month);
        Check.is("the buffer is empty", 1, () -> x.type('m'));
        Check.is("a program in parts", 1, () -> Calls.run(x, "onth"));
        Check.is("the buffer is empty again", 1, () -> x.type('m'));
        Check.fails("a text that is no program", BAD_ARGUMENT, x::run);
        Check.is("ten commands", 10, () -> Calls.run(x, "month;month;month;month;month;month;month;month;month;month"));
        Check.is("month", 14, x::month);
    }

    private static void p47Grammar() {
        failing("month 0");
        failing("month 25");
        failing("flat 6=1");
        failing("flat 0=0");
        failing("tenant 51@0+1/0");
        failing("tenant 0@0+1/0");
        failing("tenant 1@6+1/0");
        failing("tenant 1@0+41/0");
        failing("in 0>0");
        failing("out 0");
        failing("rent 0=9");
        failing("gift 0+9");
        TenantCensus x = new TenantCensus();
        Check.is("numbers of two digits", 1, () -> Calls.run(x, "tenant 50@5+40/99"));
        Check.fails("in a flat that is not there", UNSUPPORTED, () -> Calls.run(x, "in 0>0"));
        Calls.run(x, "flat 5=99;in 00>0");
        Check.is("in 00", 0, () -> x.flatOf(0));
        Check.fails("in twice", UNSUPPORTED, () -> Calls.run(x, "in 0>0"));
        Check.fails("gift of 0", UNSUPPORTED, () -> Calls.run(x, "gift 0+0"));
        Check.fails("a rent of 0", UNSUPPORTED, () -> Calls.run(x, "rent 0=00"));
        Check.fails("too dear", UNSUPPORTED, () -> Calls.run(x, "flat 0=99;tenant 1@0+1/98;in 1>1"));
        Check.is("flats", 1, x::flats);
        Calls.run(x, "flat 0=1;flat 0=1;flat 0=1;flat 0=1;flat 0=1");
        Check.fails("a seventh flat", UNSUPPORTED, () -> Calls.run(x, "flat 0=1"));
    }

    private static void failing(String text) {
        TenantCensus x = new TenantCensus();
        Check.fails("run of '" + text + "'", UNSUPPORTED, () -> Calls.run(x, text));
        Check.is("failedCommand of '" + text + "'", 0, x::failedCommand);
        Check.fails("errorPosition of '" + text + "'", NO_ELEMENT, x::errorPosition);
    }

    private static void p48ErrorPosition() {
        syntax("", 0);
        syntax("x", 0);
        syntax(";", 0);
        syntax(" ", 0);
        syntax("S", 0);
        syntax("settle ", 6);
        syntax("settle;", 7);
        syntax("settle;;", 7);
        syntax("settl", 5);
        syntax("settel", 4);
        syntax("settle; settle", 7);
        syntax("mo1", 2);
        syntax("month ", 6);
        syntax("month  1", 6);
        syntax("month 123", 8);
        syntax("month1", 5);
        syntax("month 1 ", 7);
        syntax("month 12;", 9);
        syntax("flat 12=1", 6);
        syntax("flat 1=", 7);
        syntax("flat 1=123", 9);
        syntax("flat =1", 5);
        syntax("flat", 4);
        syntax("tenant 5@1", 10);
        syntax("tenant 555@1", 9);
        syntax("tenant 5@12+1/1", 10);
        syntax("tenant 5@1+1/-1", 13);
        syntax("tenant 5@1+100/1", 13);
        syntax("tenant 5@1/1", 10);
        syntax("in 1>12", 6);
        syntax("in 1=1", 4);
        syntax("in 123>1", 5);
        syntax("out", 3);
        syntax("out x", 4);
        syntax("out 1in 1>1", 5);
        syntax("rent 1=x", 7);
        syntax("rent 1+1", 6);
        syntax("gift 1+", 7);
        syntax("gift 1=1", 6);
        syntax("out 99;out 99;out 999", 20);
        syntax("month;month 1;mint", 15);
        syntax("out \u0661", 4);
        syntax("out \uff11", 4);
        syntax("settle\0", 6);
        syntax("month;month;month;month;month;month;month;month;month;month;", 60);
        TenantCensus x = new TenantCensus();
        Check.fails("no program", BAD_ARGUMENT, () -> Calls.run(x, "set"));
        Calls.run(x, "settle");
        Check.is("the position stays recorded", 3, x::errorPosition);
        x.save();
        x.restore();
        Check.is("and is no part of the state", 3, x::errorPosition);
        Check.fails("no command failed", NO_ELEMENT, x::failedCommand);
        Check.fails("another one", BAD_ARGUMENT, () -> Calls.run(x, "sx"));
        Check.is("the latest", 1, x::errorPosition);
    }

    private static void p49FailedCommand() {
        TenantCensus x = new TenantCensus();
        Check.fails("the third fails", UNSUPPORTED, () -> Calls.run(x, "month;settle;out 0;out 0"));
        Check.is("failedCommand", 2, x::failedCommand);
        Calls.run(x, "month");
        Check.is("stays recorded", 2, x::failedCommand);
        x.undo();
        Check.is("and is no part of the state", 2, x::failedCommand);
        Check.fails("a syntax error comes first", BAD_ARGUMENT, () -> Calls.run(x, "out 0;x"));
        Check.is("which is no failed command", 2, x::failedCommand);
        Check.fails("the first fails", UNSUPPORTED, () -> Calls.run(x, "out 0"));
        Check.is("the latest", 0, x::failedCommand);
    }

    // ---- undo and snapshots

    private static void p50Undo() {
        TenantCensus x = new TenantCensus();
        Check.fails("nothing to undo", BAD_STATE, x::undo);
        for (int month = 0; month < 10; month++) {
            x.pass(1);
        }
        Check.fails("failed calls are no changes", BAD_ARGUMENT, () -> x.pass(0));
        for (int left = 7; left >= 4; left--) {
            Check.is("undo", left, x::undo);
        }
        Check.is("month", 6, x::month);
        x.pass(3);
        Check.is("undo", 4, x::undo);
        Check.is("month", 6, x::month);
        for (int left = 3; left >= 0; left--) {
            Check.is("undo", left, x::undo);
        }
        Check.is("eight were undone", 2, x::month);
        Check.fails("no more", BAD_STATE, x::undo);
        undoOfEveryChange();
        undoAndPrograms();
    }

    private static void undoOfEveryChange() {
        TenantCensus x = new TenantCensus();
        x.addFlat(1, 10);
        x.addTenant(5, 1, 3, 40);
        x.moveIn(0, 0);
        x.setRent(0, 90);
        x.give(0, 7);
        x.settle();
        x.addTenant(6, 2, 4, 1);
        x.removeTenant(1);
        x.undo();
        Check.yes("removeTenant", x.isPresent(1));
        x.undo();
        Check.no("addTenant", x.isPresent(1));
        x.undo();
        Check.is("settle", 0, () -> x.flatOf(0));
        x.undo();
        Check.is("give", 40, () -> x.purseOf(0));
        Check.is("received", 40, x::received);
        x.undo();
        Check.is("setRent", 10, () -> x.rentOf(0));
        Check.is("the number comes again", 1, () -> x.addTenant(1, 1, 1, 1));
        x.moveOut(0);
        x.undo();
        Check.is("moveOut", 0, () -> x.tenantIn(0));
        x.undo();
        x.undo();
        Check.is("moveIn", 1, x::vacantFlats);
        x.undo();
        x.undo();
        Check.is("addFlat", 0, x::flats);
        Check.fails("all undone", BAD_STATE, x::undo);
    }

    private static void undoAndPrograms() {
        TenantCensus x = new TenantCensus();
        x.addFlat(1, 10);
        Calls.run(x, "month;month;tenant 1@1+1/50;in 0>0");
        Check.is("moved in", 0, () -> x.flatOf(0));
        int length = x.writeFloor(1);
        Check.fails("a failing program", UNSUPPORTED, () -> Calls.run(x, "month;out 9"));
        Calls.type(x, "mon");
        Check.is("a program is one change, a failed one none", 1, x::undo);
        Check.is("month", 0, x::month);
        Check.is("tenants", 0, x::tenants);
        line(x, "the line stays", length, "1~1 0=10:0");
        Check.is("the buffer stays", 4, () -> x.type('t'));
        x.type('h');
        Check.is("run", 1, x::run);
        Check.is("settle changes nothing, but counts", 1, () -> {
            x.settle();
            return x.undo() - 1;
        });
        TenantCensus y = new TenantCensus();
        for (int month = 0; month < 8; month++) {
            y.pass(1);
        }
        Check.fails("a failing program costs no change", UNSUPPORTED, () -> Calls.run(y, "month;month;out 9"));
        for (int left = 7; left >= 0; left--) {
            Check.is("undo", left, y::undo);
        }
        Check.is("month", 0, y::month);
    }

    private static void p51And52SaveAndRestore() {
        TenantCensus x = twoHoused();
        Check.fails("nothing saved", BAD_STATE, x::restore);
        Check.is("save", 2, x::save);
        x.addTenant(9, 1, 1, 7);
        x.pass(5);
        Check.is("undo after save", 7, x::undo);
        x.pass(6);
        int length = x.writePlan();
        Calls.type(x, "mont");
        Check.is("restore", 2, x::restore);
        Check.is("month", 0, x::month);
        Check.is("received", 50, x::received);
        Check.fails("nothing to undo", BAD_STATE, x::undo);
        Check.is("the buffer stays", 5, () -> x.type('h'));
        Check.fails("the line stays", NO_INDEX, () -> x.charAt(length));
        x.pass(1);
        Check.is("restored again", 2, x::restore);
        Check.is("month", 0, x::month);
        Check.is("the number comes again", 2, () -> x.addTenant(1, 1, 1, 1));
        Check.is("save in place of it", 3, x::save);
        x.removeTenant(2);
        Check.is("the new one", 3, x::restore);
        x.pass(2);
        Check.is("changes after it can be undone", 0, x::undo);
        Check.is("tenants", 3, x::tenants);
        everythingIsRestored();
    }

    private static void everythingIsRestored() {
        TenantCensus x = new TenantCensus();
        x.addFlat(3, 9);
        x.addTenant(7, 1, 4, 9);
        x.addTenant(8, 2, 5, 9);
        x.moveIn(0, 0);
        x.moveOut(0);
        x.removeTenant(0);
        x.pass(4);
        x.setRent(0, 99);
        x.pass(1);
        x.save();
        x.pass(2);
        x.setRent(0, 1);
        x.addFlat(2, 1);
        x.settle();
        x.moveOut(1);
        x.removeTenant(1);
        x.addTenant(1, 0, 1, 0);
        x.addFlat(1, 1);
        x.restore();
        Check.is("flats", 1, x::flats);
        Check.is("floorOf", 3, () -> x.floorOf(0));
        Check.is("rentOf", 99, () -> x.rentOf(0));
        Check.is("tenantIn", 1, () -> x.tenantIn(0));
        Check.is("weightOf", 8, () -> x.weightOf(1));
        Check.is("wish", 102, () -> x.burden(1, 0));
        Check.is("noticesOf", 1, () -> x.noticesOf(1));
        Check.is("month", 5, x::month);
        Check.is("paidRents", 27, x::paidRents);
        Check.is("evictions", 0, x::evictions);
        Check.is("received", 18 + 25, x::received);
        Check.is("purseOf", 7, () -> x.purseOf(1));
        Check.is("receivedByParts", 43, x::receivedByParts);
        Check.is("the saved house knows no eviction", 1, () -> x.pass(1));
        x.restore();
        Check.is("evictions", 0, x::evictions);
        Check.is("paidRents", 27, x::paidRents);
        Check.is("income 5", 1, () -> x.pass(1));
        Check.is("purseOf", 12, () -> x.purseOf(1));
    }
}
