import java.util.List;
import java.util.NoSuchElementException;
import java.util.function.Supplier;
import java.util.function.ToLongFunction;

/**
 * "A method that throws an exception changes nothing, except that run() empties the program buffer
 * and records a syntax error or a failed command. If several conditions for an exception hold, the
 * exception that is listed first is thrown."
 */
public final class RefusalsTest {
    private static final Class<NoSuchElementException> NO_ELEMENT = NoSuchElementException.class;
    private static final Class<IndexOutOfBoundsException> NO_INDEX = IndexOutOfBoundsException.class;
    private static final Class<IllegalArgumentException> BAD_ARGUMENT = IllegalArgumentException.class;
    private static final Class<IllegalStateException> BAD_STATE = IllegalStateException.class;
    private static final Class<UnsupportedOperationException> UNSUPPORTED = UnsupportedOperationException.class;
    private static final Class<ArithmeticException> ARITHMETIC = ArithmeticException.class;
    private static final int LOW = Integer.MIN_VALUE;
    private static final int HIGH = Integer.MAX_VALUE;

    /** In the lively house: a negative number, the one who is gone, the next one, and far ones. */
    private static final int[] NO_TENANTS = {-1, 0, 4, 6, LOW, HIGH};
    private static final int[] NO_FLATS = {-1, 3, 6, LOW, HIGH};
    private static final int[] NO_FLOORS = {-1, 6, LOW, HIGH};

    private RefusalsTest() {
    }

    public static void main(String[] args) {
        p02AddFlat();
        p03AddTenant();
        p04RemoveTenant();
        p05MoveInWithoutTenantOrFlat();
        p05MoveInRefusedByState();
        p06MoveOut();
        p07SetRent();
        p08Give();
        p10Pass();
        p12To14Flats();
        p18To21Tenants();
        p22Burden();
        p23And24Ranks();
        p25And43Floors();
        p28To33Tenants();
        p34MonthsUntilEviction();
        p40And41Quotients();
        p45CharAt();
        p46Type();
        p47NoProgram();
        p47FailingProgram();
        p48And49Records();
        p50To52UndoAndRestore();
        queriesChangeNothing();
        Check.end("RefusalsTest");
    }

    private static void lively(String what, Class<? extends RuntimeException> due, ToLongFunction<TenantCensus> call) {
        Twins.refused(what, due, Houses::lively, call);
    }

    private static void full(String what, Class<? extends RuntimeException> due, ToLongFunction<TenantCensus> call) {
        Twins.refused("full house: " + what, due, Houses::full, call);
    }

    private static void fresh(String what, Class<? extends RuntimeException> due, ToLongFunction<TenantCensus> call) {
        Twins.refused("new object: " + what, due, TenantCensus::new, call);
    }

    // ---- changes

    private static void p02AddFlat() {
        int[][] wrong = {{-1, 1}, {6, 1}, {LOW, 1}, {HIGH, 1}, {0, 0}, {5, 100}, {0, -1}, {0, LOW}, {0, HIGH}, {6, 0}};
        for (int[] w : wrong) {
            String what = "addFlat(" + w[0] + ", " + w[1] + ")";
            lively(what, BAD_ARGUMENT, x -> x.addFlat(w[0], w[1]));
            full(what + ", of two reasons the first", BAD_ARGUMENT, x -> x.addFlat(w[0], w[1]));
        }
        full("addFlat(0, 1)", BAD_STATE, x -> x.addFlat(0, 1));
        full("addFlat(5, 99)", BAD_STATE, x -> x.addFlat(5, 99));
    }

    private static void p03AddTenant() {
        int[][] wrong = {
            {0, 0, 1, 0}, {51, 5, 40, 99}, {-1, 0, 1, 0}, {LOW, 0, 1, 0}, {HIGH, 0, 1, 0},
            {1, -1, 1, 0}, {50, 6, 40, 99}, {1, LOW, 1, 0}, {1, HIGH, 1, 0},
            {1, 0, 0, 0}, {50, 5, 41, 99}, {1, 0, -1, 0}, {1, 0, LOW, 0}, {1, 0, HIGH, 0},
            {1, 0, 1, -1}, {50, 5, 40, 100}, {1, 0, 1, LOW}, {1, 0, 1, HIGH},
        };
        for (int[] w : wrong) {
            String what = "addTenant(" + w[0] + ", " + w[1] + ", " + w[2] + ", " + w[3] + ")";
            lively(what, BAD_ARGUMENT, x -> x.addTenant(w[0], w[1], w[2], w[3]));
            full(what + ", of two reasons the first", BAD_ARGUMENT, x -> x.addTenant(w[0], w[1], w[2], w[3]));
        }
        full("addTenant(1, 0, 1, 0)", BAD_STATE, x -> x.addTenant(1, 0, 1, 0));
        full("addTenant(50, 5, 40, 99)", BAD_STATE, x -> x.addTenant(50, 5, 40, 99));
    }

    private static void p04RemoveTenant() {
        for (int tenant : NO_TENANTS) {
            lively("removeTenant(" + tenant + ")", NO_ELEMENT, x -> x.removeTenant(tenant));
        }
        lively("removeTenant of one in a flat", BAD_STATE, x -> x.removeTenant(1));
        lively("removeTenant of one with a notice", BAD_STATE, x -> x.removeTenant(2));
        fresh("removeTenant(0)", NO_ELEMENT, x -> x.removeTenant(0));
    }

    private static void p05MoveInWithoutTenantOrFlat() {
        for (int tenant : NO_TENANTS) {
            lively("moveIn(" + tenant + ", 2)", NO_ELEMENT, x -> x.moveIn(tenant, 2));
            lively("moveIn of no tenant into an occupied flat", NO_ELEMENT, x -> x.moveIn(tenant, 0));
            for (int flat : NO_FLATS) {
                lively("moveIn of no tenant into no flat", NO_ELEMENT, x -> x.moveIn(tenant, flat));
            }
        }
        for (int flat : NO_FLATS) {
            lively("moveIn(3, " + flat + ")", NO_INDEX, x -> x.moveIn(3, flat));
            lively("moveIn of one in a flat into no flat", NO_INDEX, x -> x.moveIn(1, flat));
        }
        fresh("moveIn(0, 0)", NO_ELEMENT, x -> x.moveIn(0, 0));
    }

    private static void p05MoveInRefusedByState() {
        lively("moveIn where this tenant lives", BAD_STATE, x -> x.moveIn(1, 0));
        lively("moveIn of one in a flat where another lives", BAD_STATE, x -> x.moveIn(1, 1));
        lively("moveIn of one in a flat into a vacant one that is too dear", BAD_STATE, x -> x.moveIn(1, 2));
        lively("moveIn where another lives", BAD_STATE, x -> x.moveIn(3, 0));
        lively("moveIn into a vacant flat that is too dear", UNSUPPORTED, x -> x.moveIn(3, 2));
        Supplier<TenantCensus> affordable = () -> {
            TenantCensus x = Houses.withFlats(10, 5);
            x.addTenant(1, 0, 1, 10);
            x.addTenant(1, 0, 1, 9);
            x.addTenant(1, 0, 1, 10);
            x.moveIn(0, 0);
            return x;
        };
        Twins.refused("moveIn of one in a flat into one that is vacant", BAD_STATE, affordable, x -> x.moveIn(0, 1));
        Twins.refused("moveIn where another lives, and too dear", BAD_STATE, affordable, x -> x.moveIn(1, 0));
        Twins.refused("moveIn where another lives, affordable", BAD_STATE, affordable, x -> x.moveIn(2, 0));
        Supplier<TenantCensus> justTooDear = () -> {
            TenantCensus x = Houses.withFlats(10);
            x.addTenant(1, 0, 1, 9);
            return x;
        };
        Twins.refused("moveIn, too dear by one coin", UNSUPPORTED, justTooDear, x -> x.moveIn(0, 0));
    }

    private static void p06MoveOut() {
        for (int tenant : NO_TENANTS) {
            lively("moveOut(" + tenant + ")", NO_ELEMENT, x -> x.moveOut(tenant));
        }
        lively("moveOut of one in no flat", BAD_STATE, x -> x.moveOut(3));
    }

    private static void p07SetRent() {
        for (int flat : NO_FLATS) {
            lively("setRent(" + flat + ", 1)", NO_INDEX, x -> x.setRent(flat, 1));
            lively("setRent(" + flat + ", 0), of two reasons the first", NO_INDEX, x -> x.setRent(flat, 0));
            lively("setRent(" + flat + ", 100), of two reasons the first", NO_INDEX, x -> x.setRent(flat, 100));
        }
        for (int rent : new int[] {0, 100, -1, LOW, HIGH}) {
            lively("setRent(0, " + rent + ")", BAD_ARGUMENT, x -> x.setRent(0, rent));
            lively("setRent(2, " + rent + "), a vacant flat", BAD_ARGUMENT, x -> x.setRent(2, rent));
        }
    }

    private static void p08Give() {
        for (int tenant : NO_TENANTS) {
            lively("give(" + tenant + ", 1)", NO_ELEMENT, x -> x.give(tenant, 1));
            lively("give(" + tenant + ", 0), of two reasons the first", NO_ELEMENT, x -> x.give(tenant, 0));
            lively("give(" + tenant + ", 100), of two reasons the first", NO_ELEMENT, x -> x.give(tenant, 100));
        }
        for (int coins : new int[] {0, 100, -1, LOW, HIGH}) {
            lively("give(1, " + coins + ")", BAD_ARGUMENT, x -> x.give(1, coins));
        }
    }

    private static void p10Pass() {
        for (int months : new int[] {0, 25, -1, LOW, HIGH}) {
            lively("pass(" + months + ")", BAD_ARGUMENT, x -> x.pass(months));
            fresh("pass(" + months + ")", BAD_ARGUMENT, x -> x.pass(months));
        }
    }

    // ---- flats and tenants

    private static void p12To14Flats() {
        for (int flat : NO_FLATS) {
            lively("floorOf(" + flat + ")", NO_INDEX, x -> x.floorOf(flat));
            lively("rentOf(" + flat + ")", NO_INDEX, x -> x.rentOf(flat));
            lively("tenantIn(" + flat + ")", NO_INDEX, x -> x.tenantIn(flat));
        }
        lively("tenantIn a vacant flat", NO_ELEMENT, x -> x.tenantIn(2));
        fresh("floorOf(0)", NO_INDEX, x -> x.floorOf(0));
        fresh("rentOf(0)", NO_INDEX, x -> x.rentOf(0));
        fresh("tenantIn(0)", NO_INDEX, x -> x.tenantIn(0));
        full("floorOf(6)", NO_INDEX, x -> x.floorOf(6));
        full("rentOf(6)", NO_INDEX, x -> x.rentOf(6));
        full("tenantIn(6)", NO_INDEX, x -> x.tenantIn(6));
    }

    private static void p18To21Tenants() {
        for (int tenant : NO_TENANTS) {
            lively("weightOf(" + tenant + ")", NO_ELEMENT, x -> x.weightOf(tenant));
            lively("purseOf(" + tenant + ")", NO_ELEMENT, x -> x.purseOf(tenant));
            lively("noticesOf(" + tenant + ")", NO_ELEMENT, x -> x.noticesOf(tenant));
            lively("flatOf(" + tenant + ")", NO_ELEMENT, x -> x.flatOf(tenant));
        }
        lively("flatOf one in no flat", NO_ELEMENT, x -> x.flatOf(3));
        full("weightOf(6)", NO_ELEMENT, x -> x.weightOf(6));
        full("purseOf(6)", NO_ELEMENT, x -> x.purseOf(6));
        full("noticesOf(6)", NO_ELEMENT, x -> x.noticesOf(6));
        full("flatOf(6)", NO_ELEMENT, x -> x.flatOf(6));
    }

    private static void p22Burden() {
        for (int tenant : NO_TENANTS) {
            lively("burden(" + tenant + ", 0)", NO_ELEMENT, x -> x.burden(tenant, 0));
            for (int flat : NO_FLATS) {
                lively("burden for no tenant of no flat", NO_ELEMENT, x -> x.burden(tenant, flat));
            }
        }
        for (int flat : NO_FLATS) {
            lively("burden(1, " + flat + ")", NO_INDEX, x -> x.burden(1, flat));
        }
        full("burden(0, 6)", NO_INDEX, x -> x.burden(0, 6));
    }

    private static void p23And24Ranks() {
        for (int tenant : NO_TENANTS) {
            lively("flatByRank(" + tenant + ", 0)", NO_ELEMENT, x -> x.flatByRank(tenant, 0));
        }
        // There are three flats and three tenants.
        for (int rank : new int[] {-1, 3, LOW, HIGH}) {
            lively("flatByRank(1, " + rank + ")", NO_ELEMENT, x -> x.flatByRank(1, rank));
            lively("tenantByPurse(" + rank + ")", NO_ELEMENT, x -> x.tenantByPurse(rank));
        }
        full("flatByRank(0, 6)", NO_ELEMENT, x -> x.flatByRank(0, 6));
        full("tenantByPurse(6)", NO_ELEMENT, x -> x.tenantByPurse(6));
        fresh("tenantByPurse(0)", NO_ELEMENT, x -> x.tenantByPurse(0));
    }

    private static void p25And43Floors() {
        for (int floor : NO_FLOORS) {
            lively("creak(" + floor + ")", NO_INDEX, x -> x.creak(floor));
            lively("writeFloor(" + floor + ")", NO_INDEX, x -> x.writeFloor(floor));
            fresh("writeFloor(" + floor + ")", NO_INDEX, x -> x.writeFloor(floor));
        }
    }

    private static void p28To33Tenants() {
        for (int tenant : NO_TENANTS) {
            lively("possibleFloors(" + tenant + ")", NO_ELEMENT, x -> x.possibleFloors(tenant));
            lively("plannedFlat(" + tenant + ")", NO_ELEMENT, x -> x.plannedFlat(tenant));
            lively("plannedFlatByPlans(" + tenant + ")", NO_ELEMENT, x -> x.plannedFlatByPlans(tenant));
            lively("chainLength(" + tenant + ")", NO_ELEMENT, x -> x.chainLength(tenant));
        }
        lively("plannedFlat of one without", NO_ELEMENT, x -> x.plannedFlat(1));
        lively("plannedFlatByPlans of one without", NO_ELEMENT, x -> x.plannedFlatByPlans(1));
        lively("chainLength of one in no flat", NO_ELEMENT, x -> x.chainLength(3));
    }

    private static void p34MonthsUntilEviction() {
        Supplier<TenantCensus> empty = () -> {
            TenantCensus x = Houses.withFlats(5);
            x.addTenant(1, 0, 1, 92);
            return x;
        };
        Supplier<TenantCensus> evictedInMonth25 = () -> {
            TenantCensus x = empty.get();
            x.moveIn(0, 0);
            return x;
        };
        Twins.refused("monthsUntilEviction, nobody in a flat", NO_ELEMENT, empty, TenantCensus::monthsUntilEviction);
        Twins.refused("an eviction in month 25", NO_ELEMENT, evictedInMonth25, TenantCensus::monthsUntilEviction);
        fresh("monthsUntilEviction", NO_ELEMENT, TenantCensus::monthsUntilEviction);
    }

    private static void p40And41Quotients() {
        Supplier<TenantCensus> empty = () -> {
            TenantCensus x = Houses.withFlats(1, 2);
            x.addTenant(1, 0, 1, 5);
            return x;
        };
        Twins.refused("meanBurden, nobody in a flat", ARITHMETIC, empty, x -> (long) x.meanBurden());
        fresh("meanBurden", ARITHMETIC, x -> (long) x.meanBurden());
        fresh("occupancy", ARITHMETIC, x -> (long) x.occupancy());
    }

    private static void p45CharAt() {
        // The line of the lively house is "2~3 1=31:2".
        for (int index : new int[] {-1, 10, LOW, HIGH}) {
            lively("charAt(" + index + ")", NO_INDEX, x -> x.charAt(index));
        }
        fresh("charAt(0)", NO_INDEX, x -> x.charAt(0));
    }

    // ---- programs, undo and snapshots

    private static void p46Type() {
        full("type(' ')", BAD_STATE, x -> x.type(' '));
        full("type(';')", BAD_STATE, x -> x.type(';'));
    }

    private static void p47NoProgram() {
        String[] texts = {"", "month;gift 1+5;", "out 9;x", "settle;month 3;gift 1+9 ", "rent 0=5;flat 1=1;tenant 9@9"};
        int[] positions = {0, 15, 6, 23, 28};
        for (int index = 0; index < texts.length; index++) {
            String text = texts[index];
            ToLongFunction<TenantCensus> call = x -> Calls.run(x, text);
            Twins.runsOnly("the text '" + text + "'", RefusalsTest::emptied, call);
            TenantCensus x = emptied();
            Check.fails("the text '" + text + "'", BAD_ARGUMENT, () -> call.applyAsLong(x));
            Check.is("its error position", positions[index], x::errorPosition);
            Check.is("the failed command of before", 2, x::failedCommand);
            Check.is("the buffer is empty", 1, () -> x.type('s'));
        }
    }

    private static void p47FailingProgram() {
        String[] texts = {
            "flat 6=1", "flat 0=1;tenant 9@1+1/1;in 1>2", "gift 1+9;rent 0=1;out 2;settle;month 25",
            "out 1;out 2;out 2", "month 24;month 24;month 24;month 24;out 5", "settle;in 3>1;in 3>2",
        };
        int[] commands = {0, 2, 4, 2, 4, 1};
        for (int index = 0; index < texts.length; index++) {
            String text = texts[index];
            ToLongFunction<TenantCensus> call = x -> Calls.run(x, text);
            Twins.runsOnly("the program '" + text + "'", RefusalsTest::emptied, call);
            TenantCensus x = emptied();
            Check.fails("the program '" + text + "'", UNSUPPORTED, () -> call.applyAsLong(x));
            Check.is("its failed command", commands[index], x::failedCommand);
            Check.is("the error position of before", 4, x::errorPosition);
            Check.is("the buffer is empty", 1, () -> x.type('s'));
        }
    }

    /** The lively house with an empty program buffer. */
    private static TenantCensus emptied() {
        TenantCensus x = Houses.lively();
        Check.outcome(x::run);
        return x;
    }

    private static void p48And49Records() {
        fresh("errorPosition", NO_ELEMENT, TenantCensus::errorPosition);
        fresh("failedCommand", NO_ELEMENT, TenantCensus::failedCommand);
        Supplier<TenantCensus> onlyFailed = () -> {
            TenantCensus x = new TenantCensus();
            Check.outcome(() -> Calls.run(x, "settle;out 0"));
            return x;
        };
        Twins.refused("errorPosition after a failed command", NO_ELEMENT, onlyFailed, TenantCensus::errorPosition);
        Check.is("failedCommand then", 1, onlyFailed.get()::failedCommand);
        Supplier<TenantCensus> onlyWrong = () -> {
            TenantCensus x = new TenantCensus();
            Check.outcome(() -> Calls.run(x, "out 0;out"));
            return x;
        };
        Twins.refused("failedCommand after a wrong text", NO_ELEMENT, onlyWrong, TenantCensus::failedCommand);
        Check.is("errorPosition then", 9, onlyWrong.get()::errorPosition);
    }

    private static void p50To52UndoAndRestore() {
        fresh("undo", BAD_STATE, TenantCensus::undo);
        fresh("restore", BAD_STATE, TenantCensus::restore);
        Supplier<TenantCensus> restored = () -> {
            TenantCensus x = Houses.lively();
            x.restore();
            return x;
        };
        Twins.refused("undo after restore", BAD_STATE, restored, TenantCensus::undo);
        Supplier<TenantCensus> undone = () -> {
            TenantCensus x = Houses.lively();
            for (int left = 8; left > 0; left--) {
                x.undo();
            }
            return x;
        };
        Twins.refused("undo after eight", BAD_STATE, undone, TenantCensus::undo);
        Supplier<TenantCensus> unsaved = () -> {
            TenantCensus x = Houses.withFlats(1);
            x.addTenant(1, 0, 1, 5);
            Calls.run(x, "in 0>0;month");
            return x;
        };
        Twins.refused("restore of a state that was not saved", BAD_STATE, unsaved, TenantCensus::restore);
    }

    // ---- calls that are no changes

    /** "A change is a successful call of addFlat, .. or run": no other call is one, or changes the state. */
    private static void queriesChangeNothing() {
        List<Supplier<TenantCensus>> makers = List.of(Houses::lively, Houses::full, TenantCensus::new);
        for (Supplier<TenantCensus> maker : makers) {
            Twins.untouched("queries", maker, RefusalsTest::askAll);
            Twins.writesOnly("writeFloor", maker, x -> x.writeFloor(0));
            Twins.writesOnly("writePlan", maker, TenantCensus::writePlan);
            Twins.runsOnly("type", maker, x -> x.type('x'));
            Twins.changesStateOnly("undo", maker, TenantCensus::undo);
            Twins.savesOnly("save", maker, TenantCensus::save);
            Twins.changesStateOnly("restore", maker, TenantCensus::restore);
            Twins.changesStateOnly("settle", maker, TenantCensus::settle);
            Twins.changesStateOnly("pass(24)", maker, x -> x.pass(24));
        }
    }

    private static long askAll(TenantCensus x) {
        for (int number = 0; number < 4; number++) {
            int at = number;
            Check.outcome(() -> x.tenantIn(at));
            Check.outcome(() -> x.flatOf(at));
            Check.outcome(() -> x.flatByRank(at, 1));
            Check.outcome(() -> x.tenantByPurse(at));
            Check.outcome(() -> x.possibleFloors(at));
            Check.outcome(() -> x.plannedFlat(at));
            Check.outcome(() -> x.plannedFlatByPlans(at));
            Check.outcome(() -> x.chainLength(at));
            Check.outcome(() -> x.charAt(at));
        }
        Check.outcome(x::monthsUntilEviction);
        Check.outcome(x::meanBurden);
        Check.outcome(x::occupancy);
        return x.censuses() + x.censusesBySets() + x.stablePlans() + (x.isStable() ? 1 : 0)
            + (x.isConsistent() ? 1 : 0) + x.received() + x.receivedByParts();
    }
}
