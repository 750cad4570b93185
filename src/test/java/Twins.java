import java.util.ArrayList;
import java.util.List;
import java.util.function.Supplier;
import java.util.function.ToLongFunction;

/**
 * Compares two objects made alike, of which one has got one call more, by all that can be asked
 * then. As an object is used for 512 calls, every group of questions has objects of its own.
 */
final class Twins {
    private Twins() {
    }

    private interface Questions {
        void ask(TenantCensus x, List<String> answers);
    }

    private static final Questions[] HOUSE = {
        Twins::houseAndAccounts, Twins::tenants, Twins::preferences, Twins::plansAndCensuses, Twins::going,
    };
    private static final Questions UNDOING = Twins::undoing;
    private static final Questions RESTORING = Twins::restoring;
    private static final Questions LINE = Twins::line;
    private static final Questions[] RECORDS = {Twins::records, Twins::buffer};

    /** A call that throws an exception of just this class, and leaves everything as it was. */
    static void refused(String what, Class<? extends RuntimeException> due, Supplier<TenantCensus> maker,
            ToLongFunction<TenantCensus> call) {
        TenantCensus x = maker.get();
        Check.fails(what, due, () -> call.applyAsLong(x));
        untouched(what, maker, call);
    }

    /** A call, whether it throws or not, that leaves everything as it was. */
    static void untouched(String what, Supplier<TenantCensus> maker, ToLongFunction<TenantCensus> call) {
        state(what, maker, call);
        same(what + ": the line", maker, call, LINE);
        same(what + ": buffer and records", maker, call, RECORDS);
    }

    /** A call that may write to the output line, but changes nothing else. */
    static void writesOnly(String what, Supplier<TenantCensus> maker, ToLongFunction<TenantCensus> call) {
        state(what, maker, call);
        same(what + ": buffer and records", maker, call, RECORDS);
    }

    /** A call that may change the program buffer and what run records, but nothing else. */
    static void runsOnly(String what, Supplier<TenantCensus> maker, ToLongFunction<TenantCensus> call) {
        state(what, maker, call);
        same(what + ": the line", maker, call, LINE);
    }

    /** A call that changes the state, but not what does not belong to it. */
    static void changesStateOnly(String what, Supplier<TenantCensus> maker, ToLongFunction<TenantCensus> call) {
        same(what + ": the line", maker, call, LINE);
        same(what + ": buffer and records", maker, call, RECORDS);
    }

    /** Calls after which all is as it was but for the saved state. */
    static void savesOnly(String what, Supplier<TenantCensus> maker, ToLongFunction<TenantCensus> call) {
        same(what + ": the house", maker, call, HOUSE);
        same(what + ": what can be undone", maker, call, UNDOING);
        changesStateOnly(what, maker, call);
    }

    /** Calls after which the house is as it was, whatever can be undone then. */
    static void sameHouse(String what, Supplier<TenantCensus> maker, ToLongFunction<TenantCensus> call) {
        same(what + ": the house", maker, call, HOUSE);
    }

    private static void state(String what, Supplier<TenantCensus> maker, ToLongFunction<TenantCensus> call) {
        same(what + ": the house", maker, call, HOUSE);
        same(what + ": what can be undone", maker, call, UNDOING);
        same(what + ": what is saved", maker, call, RESTORING);
    }

    private static void same(String what, Supplier<TenantCensus> maker, ToLongFunction<TenantCensus> call,
            Questions... groups) {
        for (Questions questions : groups) {
            List<String> due = new ArrayList<>();
            questions.ask(maker.get(), due);
            TenantCensus x = maker.get();
            Check.outcome(() -> call.applyAsLong(x));
            List<String> got = new ArrayList<>();
            questions.ask(x, got);
            Check.same(what, firstDifference(got, due), "none");
        }
    }

    private static String firstDifference(List<String> got, List<String> due) {
        for (int index = 0; index < Math.min(got.size(), due.size()); index++) {
            if (!got.get(index).equals(due.get(index))) {
                return got.get(index) + " in place of " + due.get(index);
            }
        }
        return got.size() == due.size() ? "none" : got.size() + " answers in place of " + due.size();
    }

    private static void note(List<String> answers, String what, Supplier<Object> call) {
        answers.add(what + " " + Check.outcome(call));
    }

    // ---- the groups of questions

    private static void houseAndAccounts(TenantCensus x, List<String> answers) {
        note(answers, "flats", x::flats);
        note(answers, "vacantFlats", x::vacantFlats);
        for (int flat = -1; flat < 7; flat++) {
            int at = flat;
            note(answers, "floorOf " + at, () -> x.floorOf(at));
            note(answers, "rentOf " + at, () -> x.rentOf(at));
            note(answers, "tenantIn " + at, () -> x.tenantIn(at));
            note(answers, "creak " + at, () -> x.creak(at));
        }
        accounts(x, answers);
        note(answers, "meanBurden", x::meanBurden);
        note(answers, "occupancy", x::occupancy);
        note(answers, "monthsUntilEviction", x::monthsUntilEviction);
        note(answers, "isStable", x::isStable);
        note(answers, "isConsistent", x::isConsistent);
    }

    private static void accounts(TenantCensus x, List<String> answers) {
        note(answers, "month", x::month);
        note(answers, "received", x::received);
        note(answers, "receivedByParts", x::receivedByParts);
        note(answers, "paidRents", x::paidRents);
        note(answers, "evictions", x::evictions);
    }

    private static void tenants(TenantCensus x, List<String> answers) {
        note(answers, "tenants", x::tenants);
        for (int number = -1; number < 10; number++) {
            int tenant = number;
            note(answers, "isPresent " + tenant, () -> x.isPresent(tenant));
            note(answers, "weightOf " + tenant, () -> x.weightOf(tenant));
            note(answers, "purseOf " + tenant, () -> x.purseOf(tenant));
            note(answers, "noticesOf " + tenant, () -> x.noticesOf(tenant));
            note(answers, "flatOf " + tenant, () -> x.flatOf(tenant));
            note(answers, "tenantByPurse " + tenant, () -> x.tenantByPurse(tenant));
        }
    }

    private static void preferences(TenantCensus x, List<String> answers) {
        for (int number = -1; number < 10; number++) {
            int tenant = number;
            for (int flat = -1; flat < 7; flat++) {
                int at = flat;
                note(answers, "burden " + tenant + ", " + at, () -> x.burden(tenant, at));
                note(answers, "flatByRank " + tenant + ", " + at, () -> x.flatByRank(tenant, at));
            }
        }
    }

    private static void plansAndCensuses(TenantCensus x, List<String> answers) {
        note(answers, "censuses", x::censuses);
        note(answers, "censusesBySets", x::censusesBySets);
        note(answers, "stablePlans", x::stablePlans);
        for (int number = -1; number < 10; number++) {
            int tenant = number;
            note(answers, "possibleFloors " + tenant, () -> x.possibleFloors(tenant));
            note(answers, "plannedFlat " + tenant, () -> x.plannedFlat(tenant));
            note(answers, "plannedFlatByPlans " + tenant, () -> x.plannedFlatByPlans(tenant));
            note(answers, "chainLength " + tenant, () -> x.chainLength(tenant));
        }
    }

    /** What is there after each undo, until there is none, tells which changes were remembered. */
    private static void undoing(TenantCensus x, List<String> answers) {
        for (int done = 0; done < 10; done++) {
            note(answers, "undo", x::undo);
            shortly(x, answers);
        }
    }

    private static void restoring(TenantCensus x, List<String> answers) {
        note(answers, "restore", x::restore);
        shortly(x, answers);
        note(answers, "undo after restore", x::undo);
    }

    private static void shortly(TenantCensus x, List<String> answers) {
        accounts(x, answers);
        note(answers, "flats", x::flats);
        for (int flat = 0; flat < 6; flat++) {
            int at = flat;
            note(answers, "rentOf " + at, () -> x.rentOf(at));
            note(answers, "tenantIn " + at, () -> x.tenantIn(at));
            note(answers, "tenantByPurse " + at, () -> x.tenantByPurse(at));
        }
    }

    /** What comes later tells wishes, incomes, notices and the next number. */
    private static void going(TenantCensus x, List<String> answers) {
        for (int months = 0; months < 4; months++) {
            note(answers, "pass", () -> x.pass(1));
            tenants(x, answers);
        }
        note(answers, "addFlat", () -> x.addFlat(0, 1));
        for (int number = 0; number < 10; number++) {
            int tenant = number;
            Check.outcome(() -> x.moveOut(tenant));
            Check.outcome(() -> x.removeTenant(tenant));
        }
        note(answers, "addTenant", () -> x.addTenant(1, 0, 1, 0));
    }

    private static void line(TenantCensus x, List<String> answers) {
        note(answers, "line", () -> Calls.line(x));
    }

    private static void records(TenantCensus x, List<String> answers) {
        note(answers, "errorPosition", x::errorPosition);
        note(answers, "failedCommand", x::failedCommand);
    }

    /** Whether the buffer holds the beginning of a program is told by where it stops to be one. */
    private static void buffer(TenantCensus x, List<String> answers) {
        note(answers, "type", () -> x.type('!'));
        note(answers, "run", x::run);
        note(answers, "errorPosition", x::errorPosition);
        note(answers, "failedCommand", x::failedCommand);
    }
}
