import java.util.NoSuchElementException;

/** The boundary cases of promises 1 to 45, on both sides of each bound; RefusalsTest has what is refused. */
public final class BoundsTest {
    private static final Class<NoSuchElementException> NO_ELEMENT = NoSuchElementException.class;
    private static final Class<IndexOutOfBoundsException> NO_INDEX = IndexOutOfBoundsException.class;
    private static final Class<IllegalArgumentException> BAD_ARGUMENT = IllegalArgumentException.class;
    private static final Class<IllegalStateException> BAD_STATE = IllegalStateException.class;
    private static final Class<ArithmeticException> ARITHMETIC = ArithmeticException.class;

    private BoundsTest() {
    }

    public static void main(String[] args) {
        p01NothingIsThere();
        p04HowManyStay();
        p04TheOthersKeepAllThatIsTheirs();
        p05And06MoveInAndOut();
        p06NoNotices();
        p07RentOfAnyFlat();
        p08GiftsFrom1To99();
        p09WhoIsCounted();
        p09NoticesStay();
        p10From1To24Months();
        p10EachAsOftenAsItHappens();
        p11To15FlatsFromNoneToSix();
        p16And17Present();
        p20ZeroOrOneNotice();
        p20NobodyComesWithANotice();
        p23RanksOfFlats();
        p24RanksOfPurses();
        p25EveryFloor();
        p26AtLeastOneCensus();
        p28NoFloorOrAllOfThem();
        p29To31NoneOrAPlan();
        p32AffordableNow();
        p33AsMoveOutSays();
        p34From1To24Months();
        p35To39FromNothing();
        p35To38ThroughAll512Calls();
        p37CoinsThatLeft();
        p40OneOrAll();
        p41NoneOrAll();
        p42EveryHouseIsConsistent();
        p43FromAnEmptyFloorToSixFlats();
        p43And44NumbersOfMoreDigits();
        p44FromNoTenantToSix();
        p45FirstAndLastCharacter();
        Check.end("BoundsTest");
    }

    // ---- changes

    /** "Creates a house without flats and tenants, at month 0." */
    private static void p01NothingIsThere() {
        TenantCensus x = new TenantCensus();
        Check.is("flats", 0, x::flats);
        Check.is("tenants", 0, x::tenants);
        Check.is("month", 0, x::month);
        Check.no("isPresent(0)", x.isPresent(0));
        for (int number = 0; number < 6; number++) {
            int floor = number;
            Check.is("creak(" + floor + ")", 0, () -> x.creak(floor));
        }
        Check.is("censuses", 1, x::censuses);
        Check.is("censusesBySets", 1, x::censusesBySets);
        Check.is("stablePlans", 1, x::stablePlans);
        Check.yes("isStable", x.isStable());
        Check.yes("isConsistent", x.isConsistent());
        Check.is("save", 0, x::save);
        Check.is("restore", 0, x::restore);
        Check.is("the first flat", 0, () -> x.addFlat(0, 1));
        Check.is("the first tenant", 0, () -> x.addTenant(1, 0, 1, 0));
    }

    /** "Returns the number of tenants who are present afterwards." */
    private static void p04HowManyStay() {
        TenantCensus x = new TenantCensus();
        for (int tenant = 0; tenant < 6; tenant++) {
            x.addTenant(1, 0, 1, 10 * tenant);
        }
        int[] order = {5, 0, 3, 1, 4, 2};
        for (int gone = 0; gone < 6; gone++) {
            int tenant = order[gone];
            Check.is("removeTenant(" + tenant + ")", 5 - gone, () -> x.removeTenant(tenant));
            Check.fails("purseOf the one who is gone", NO_ELEMENT, () -> x.purseOf(tenant));
        }
        Check.is("all that came is with those who left", 150, x::receivedByParts);
    }

    /** Whoever goes, the first, the last or one between, weights, wishes, incomes, purses and notices stay. */
    private static void p04TheOthersKeepAllThatIsTheirs() {
        for (int number = 0; number < 6; number++) {
            int gone = number;
            TenantCensus x = Houses.withFlats(20);
            for (int tenant = 0; tenant < 6; tenant++) {
                x.addTenant(11 + tenant, tenant, 1 + 2 * tenant, 20 + 5 * tenant);
                x.setRent(0, 20);
                x.moveIn(tenant, 0);
                if (tenant % 2 == 0) {
                    x.setRent(0, 99);
                    x.pass(1);
                }
                x.setRent(0, 99);
                // Settling leaves the notices, and nobody can afford a rent of 99.
                x.settle();
            }
            int[] purses = new int[6];
            for (int tenant = 0; tenant < 6; tenant++) {
                purses[tenant] = x.purseOf(tenant);
            }
            x.removeTenant(gone);
            for (int other = 0; other < 6; other++) {
                if (other != gone) {
                    int tenant = other;
                    Check.is("weightOf", 11 + tenant, () -> x.weightOf(tenant));
                    Check.is("the wish", 99 + 3 * tenant, () -> x.burden(tenant, 0));
                    Check.is("purseOf", purses[tenant], () -> x.purseOf(tenant));
                    Check.is("noticesOf", 1 - tenant % 2, () -> x.noticesOf(tenant));
                }
            }
            x.pass(1);
            for (int other = 0; other < 6; other++) {
                if (other != gone) {
                    int tenant = other;
                    Check.is("the income", purses[tenant] + 1 + 2 * tenant, () -> x.purseOf(tenant));
                }
            }
        }
    }

    /** "Who must live in no flat": moving out makes it so. */
    private static void p05And06MoveInAndOut() {
        TenantCensus x = Houses.withFlats(1);
        x.addTenant(1, 0, 1, 1);
        Check.fails("moveOut of one in no flat", BAD_STATE, () -> x.moveOut(0));
        Check.is("moveIn", 1, () -> x.moveIn(0, 0));
        Check.fails("moveIn again", BAD_STATE, () -> x.moveIn(0, 0));
        Check.fails("removeTenant", BAD_STATE, () -> x.removeTenant(0));
        Check.is("moveOut", 0, () -> x.moveOut(0));
        Check.fails("moveOut again", BAD_STATE, () -> x.moveOut(0));
        Check.is("moveIn once more", 1, () -> x.moveIn(0, 0));
        x.moveOut(0);
        Check.is("removeTenant", 0, () -> x.removeTenant(0));
    }

    /** "Who lives in no flat then and has no notices." */
    private static void p06NoNotices() {
        TenantCensus x = Houses.withFlats(50);
        x.addTenant(1, 0, 1, 50);
        x.moveIn(0, 0);
        x.setRent(0, 99);
        x.pass(1);
        Check.is("a notice", 1, () -> x.noticesOf(0));
        x.moveOut(0);
        Check.is("none", 0, () -> x.noticesOf(0));
        x.setRent(0, 50);
        x.moveIn(0, 0);
        x.setRent(0, 99);
        Check.is("the next notice is the first one", 0, () -> x.pass(1));
        Check.is("a notice", 1, () -> x.noticesOf(0));
    }

    /** "Sets the rent of a flat, vacant or not", "1 to 99". */
    private static void p07RentOfAnyFlat() {
        TenantCensus x = Houses.withFlats(5, 7);
        x.addTenant(1, 0, 1, 9);
        x.moveIn(0, 0);
        for (int number = 0; number < 2; number++) {
            int flat = number;
            Check.is("setRent to the most", 5 + 2 * flat, () -> x.setRent(flat, 99));
            Check.fails("setRent above", BAD_ARGUMENT, () -> x.setRent(flat, 100));
            Check.is("setRent to the least", 99, () -> x.setRent(flat, 1));
            Check.fails("setRent below", BAD_ARGUMENT, () -> x.setRent(flat, 0));
            Check.is("rentOf", 1, () -> x.rentOf(flat));
        }
        Check.is("the tenant stays", 0, () -> x.tenantIn(0));
        Check.fails("no third flat", NO_INDEX, () -> x.setRent(2, 5));
    }

    /** "The number of coins, 1 to 99." */
    private static void p08GiftsFrom1To99() {
        TenantCensus x = new TenantCensus();
        x.addTenant(1, 0, 1, 99);
        Check.fails("none", BAD_ARGUMENT, () -> x.give(0, 0));
        Check.is("one", 100, () -> x.give(0, 1));
        Check.is("99", 199, () -> x.give(0, 99));
        Check.fails("100", BAD_ARGUMENT, () -> x.give(0, 100));
        Check.is("purseOf(0)", 199, () -> x.purseOf(0));
        Check.is("received", 199, x::received);
        for (int gift = 0; gift < 300; gift++) {
            x.give(0, 99);
        }
        Check.is("a purse has no bound", 199 + 300 * 99, () -> x.purseOf(0));
        Check.is("received", 199 + 300 * 99, x::received);
    }

    /** "Who live in another flat than before, or in one and lived in none before, or in none any more." */
    private static void p09WhoIsCounted() {
        TenantCensus x = Houses.withFlats(10, 20, 30);
        Check.is("nobody", 0, x::settle);
        x.addTenant(4, 0, 1, 30);
        Check.is("in one and lived in none", 1, x::settle);
        Check.is("flatOf(0)", 0, () -> x.flatOf(0));
        Check.is("the same again", 0, x::settle);
        x.addTenant(3, 0, 1, 10);
        x.addTenant(2, 0, 1, 20);
        Check.is("2 to 0, 0 to 1, and 1 nowhere still", 2, x::settle);
        Check.is("flatOf(2)", 0, () -> x.flatOf(2));
        Check.is("flatOf(0)", 1, () -> x.flatOf(0));
        Check.fails("flatOf(1)", NO_ELEMENT, () -> x.flatOf(1));
        x.setRent(0, 99);
        x.setRent(1, 31);
        x.setRent(2, 31);
        Check.is("in none any more", 2, x::settle);
        Check.is("vacantFlats", 3, x::vacantFlats);
        Check.is("still in none", 0, x::settle);
    }

    /** "Notices stay." */
    private static void p09NoticesStay() {
        TenantCensus x = Houses.withFlats(10, 20);
        x.addTenant(4, 0, 1, 20);
        x.moveIn(0, 1);
        x.setRent(1, 30);
        x.pass(1);
        Check.is("a notice", 1, () -> x.noticesOf(0));
        Check.is("to flat 0", 1, x::settle);
        Check.is("the notice stays", 1, () -> x.noticesOf(0));
        x.setRent(0, 40);
        Check.is("to none", 1, x::settle);
        Check.is("the notice stays", 1, () -> x.noticesOf(0));
        x.setRent(0, 21);
        Check.is("from none", 1, x::settle);
        Check.is("the notice stays", 1, () -> x.noticesOf(0));
        x.setRent(0, 23);
        Check.is("so the next one is the second", 1, () -> x.pass(1));
    }

    /** "The number of months, 1 to 24." */
    private static void p10From1To24Months() {
        TenantCensus x = new TenantCensus();
        x.addTenant(1, 0, 1, 0);
        Check.fails("none", BAD_ARGUMENT, () -> x.pass(0));
        Check.is("one", 0, () -> x.pass(1));
        Check.is("month", 1, x::month);
        Check.is("24", 0, () -> x.pass(24));
        Check.is("month", 25, x::month);
        Check.fails("25", BAD_ARGUMENT, () -> x.pass(25));
        Check.is("month", 25, x::month);
        Check.is("25 incomes", 25, () -> x.purseOf(0));
    }

    /** "The number of tenants who are evicted in these months, each as often as it happens." */
    private static void p10EachAsOftenAsItHappens() {
        TenantCensus x = Houses.withFlats(2);
        x.addTenant(1, 0, 1, 2);
        x.addTenant(2, 0, 1, 2);
        x.moveIn(0, 0);
        x.setRent(0, 99);
        x.give(1, 99);
        // 0 is evicted in month 2, and 1, who moves in then with 103 coins, pays once and is evicted in month 4.
        Check.is("none in the first", 0, () -> x.pass(1));
        Check.is("one in the second", 1, () -> x.pass(1));
        Check.is("tenantIn(0)", 1, () -> x.tenantIn(0));
        Check.is("one in the fourth", 1, () -> x.pass(2));
        Check.is("evictions", 2, x::evictions);
        x.undo();
        x.undo();
        Check.is("both in three months", 2, () -> x.pass(3));
        Check.is("evictions", 2, x::evictions);
        Check.is("none is left", 0, () -> x.pass(24));
        TenantCensus y = Houses.withFlats(3, 3);
        for (int tenant = 0; tenant < 2; tenant++) {
            y.addTenant(1, 0, 1, 3);
            y.moveIn(tenant, tenant);
            y.setRent(tenant, 99);
        }
        Check.is("two in the same month", 2, () -> y.pass(2));
    }

    // ---- flats and tenants

    /** "Returns the number of flats", "of vacant flats", and the flats from 0 on. */
    private static void p11To15FlatsFromNoneToSix() {
        TenantCensus x = new TenantCensus();
        for (int number = 0; number <= 6; number++) {
            int count = number;
            Check.is("flats", count, x::flats);
            Check.is("vacantFlats", count, x::vacantFlats);
            Check.fails("floorOf", NO_INDEX, () -> x.floorOf(count));
            Check.fails("rentOf", NO_INDEX, () -> x.rentOf(count));
            Check.fails("tenantIn", NO_INDEX, () -> x.tenantIn(count));
            if (count < 6) {
                x.addFlat(count, 90 + count);
                x.addTenant(1, 0, 1, 99);
                Check.is("floorOf", count, () -> x.floorOf(count));
                Check.is("rentOf", 90 + count, () -> x.rentOf(count));
                Check.fails("tenantIn a vacant flat", NO_ELEMENT, () -> x.tenantIn(count));
            }
        }
        for (int number = 0; number < 6; number++) {
            int flat = number;
            x.moveIn(5 - flat, flat);
            Check.is("tenantIn", 5 - flat, () -> x.tenantIn(flat));
            Check.is("vacantFlats", 5 - flat, x::vacantFlats);
        }
    }

    /** "The number of tenants who are present", "true if the tenant is present". */
    private static void p16And17Present() {
        TenantCensus x = new TenantCensus();
        for (int number = 0; number < 6; number++) {
            int tenant = number;
            Check.is("tenants", tenant, x::tenants);
            Check.no("not yet", x.isPresent(tenant));
            x.addTenant(tenant + 1, 0, 1, tenant);
            Check.yes("now", x.isPresent(tenant));
            Check.is("weightOf", tenant + 1, () -> x.weightOf(tenant));
            Check.is("purseOf", tenant, () -> x.purseOf(tenant));
        }
        Check.is("tenants", 6, x::tenants);
        x.removeTenant(0);
        x.removeTenant(5);
        Check.no("the first is gone", x.isPresent(0));
        Check.yes("the second is there", x.isPresent(1));
        Check.yes("the fifth is there", x.isPresent(4));
        Check.no("the last is gone", x.isPresent(5));
        Check.no("-1", x.isPresent(-1));
        Check.is("tenants", 4, x::tenants);
    }

    /** "The number of notices, 0 or 1." */
    private static void p20ZeroOrOneNotice() {
        TenantCensus x = Houses.withFlats(1);
        x.addTenant(1, 0, 1, 1);
        x.moveIn(0, 0);
        x.setRent(0, 2);
        Check.is("at first", 0, () -> x.noticesOf(0));
        int[] due = {0, 1, 0, 1, 0, 1};
        for (int month = 0; month < due.length; month++) {
            x.pass(1);
            Check.is("after month " + (month + 1), due[month], () -> x.noticesOf(0));
        }
        Check.is("nobody was evicted, as each second month pays", 0, x::evictions);
    }

    /** "A number of notices, initially 0", whatever the one before had. */
    private static void p20NobodyComesWithANotice() {
        TenantCensus x = Houses.withFlats(9);
        for (int number = 0; number < 6; number++) {
            comesAndGetsANotice(x, number);
        }
        int[] leaving = {5, 0, 7, 2, 9, 4};
        for (int index = 0; index < 6; index++) {
            x.removeTenant(leaving[index]);
            comesAndGetsANotice(x, 6 + index);
        }
    }

    private static void comesAndGetsANotice(TenantCensus x, int tenant) {
        x.setRent(0, 9);
        x.addTenant(1, 0, 1, 9);
        Check.is("initially", 0, () -> x.noticesOf(tenant));
        x.moveIn(tenant, 0);
        x.setRent(0, 99);
        x.pass(1);
        Check.is("after a month", 1, () -> x.noticesOf(tenant));
        x.settle();
        Check.is("in no flat", 1, () -> x.noticesOf(tenant));
    }

    /** "Counted from 0 for the most preferred flat", "no such rank". */
    private static void p23RanksOfFlats() {
        TenantCensus x = new TenantCensus();
        x.addTenant(1, 0, 1, 0);
        for (int number = 0; number <= 6; number++) {
            int count = number;
            Check.fails("a rank too far", NO_ELEMENT, () -> x.flatByRank(0, count));
            Check.fails("rank -1", NO_ELEMENT, () -> x.flatByRank(0, -1));
            for (int rank = 0; rank < count; rank++) {
                int at = rank;
                Check.is("flatByRank", count - 1 - rank, () -> x.flatByRank(0, at));
            }
            if (count < 6) {
                x.addFlat(5 - count, 9);
            }
        }
    }

    /** "Sorted by their purses in descending order, then by their numbers in ascending order." */
    private static void p24RanksOfPurses() {
        TenantCensus x = new TenantCensus();
        for (int number = 0; number <= 6; number++) {
            int count = number;
            Check.fails("a rank too far", NO_ELEMENT, () -> x.tenantByPurse(count));
            Check.fails("rank -1", NO_ELEMENT, () -> x.tenantByPurse(-1));
            for (int rank = 0; rank < count; rank++) {
                int at = rank;
                Check.is("equal purses", rank, () -> x.tenantByPurse(at));
            }
            if (count < 6) {
                x.addTenant(6 - count, 0, 1, 10);
            }
        }
        x.give(5, 1);
        Check.is("one coin more", 5, () -> x.tenantByPurse(0));
        Check.is("then the first", 0, () -> x.tenantByPurse(1));
        x.give(0, 1);
        Check.is("equal again", 0, () -> x.tenantByPurse(0));
        Check.is("then the last", 5, () -> x.tenantByPurse(1));
        x.give(0, 99);
        x.removeTenant(0);
        Check.is("without the first", 5, () -> x.tenantByPurse(0));
        Check.fails("a rank too far", NO_ELEMENT, () -> x.tenantByPurse(5));
    }

    // ---- creaks, censuses, plans and predictions

    /** "If there is no such floor": floors 0 to 5 are there, even without flats. */
    private static void p25EveryFloor() {
        TenantCensus x = new TenantCensus();
        Check.fails("creak(-1)", NO_INDEX, () -> x.creak(-1));
        Check.is("creak(0)", 0, () -> x.creak(0));
        Check.is("creak(5)", 0, () -> x.creak(5));
        Check.fails("creak(6)", NO_INDEX, () -> x.creak(6));
        for (int number = 0; number < 6; number++) {
            int floor = number;
            x.addFlat(floor, 1);
            x.addTenant(50 - floor, 0, 1, 1);
            x.moveIn(floor, floor);
            Check.is("creak", 50 - floor, () -> x.creak(floor));
        }
    }

    /** "The number of censuses, at least 1." */
    private static void p26AtLeastOneCensus() {
        TenantCensus x = new TenantCensus();
        int[] due = {1, 1, 2, 6, 24, 120, 720};
        for (int count = 0; count <= 6; count++) {
            Check.is("censuses of " + count, due[count], x::censuses);
            Check.is("censusesBySets of " + count, due[count], x::censusesBySets);
            if (count < 6) {
                x.addFlat(count, 1);
                x.addTenant(50, 0, 1, 1);
                Check.is("one in no flat does not count", due[count], x::censuses);
                Check.is("nor by sets", due[count], x::censusesBySets);
                x.moveIn(count, count);
            }
        }
    }

    /** "The number of floors, 0 if the tenant lives in no flat." */
    private static void p28NoFloorOrAllOfThem() {
        TenantCensus x = new TenantCensus();
        for (int number = 0; number < 6; number++) {
            int tenant = number;
            x.addFlat(tenant, 1);
            x.addTenant(50, 0, 1, 1);
            Check.is("in no flat", 0, () -> x.possibleFloors(tenant));
            x.moveIn(tenant, tenant);
            Check.is("the last one", tenant + 1, () -> x.possibleFloors(tenant));
            Check.is("the first one", tenant + 1, () -> x.possibleFloors(0));
        }
        Check.fails("no such tenant", NO_ELEMENT, () -> x.possibleFloors(6));
        TenantCensus y = Houses.withFlats(1, 1);
        y.addFlat(1, 1);
        y.addTenant(2, 0, 1, 1);
        y.addTenant(2, 0, 1, 1);
        y.addTenant(3, 0, 1, 1);
        for (int tenant = 0; tenant < 3; tenant++) {
            y.moveIn(tenant, tenant);
        }
        Check.is("the 3 fits above 4, but leaves 1 behind", 1, () -> y.possibleFloors(2));
        Check.is("a 2 fits above 3, but leaves 1 behind", 1, () -> y.possibleFloors(0));
    }

    /** "Or the best plan gives no flat to the tenant", "at least 1". */
    private static void p29To31NoneOrAPlan() {
        TenantCensus x = new TenantCensus();
        for (int tenant = 0; tenant < 6; tenant++) {
            x.addTenant(1, 0, 1, 50);
        }
        for (int number = 0; number <= 6; number++) {
            int count = number;
            Check.is("stablePlans with " + count + " flats", 1, x::stablePlans);
            for (int tenant = 0; tenant < 6; tenant++) {
                int one = tenant;
                if (tenant < count) {
                    Check.is("plannedFlat", tenant, () -> x.plannedFlat(one));
                    Check.is("plannedFlatByPlans", tenant, () -> x.plannedFlatByPlans(one));
                } else {
                    Check.fails("no flat is left", NO_ELEMENT, () -> x.plannedFlat(one));
                    Check.fails("no flat is left, by plans", NO_ELEMENT, () -> x.plannedFlatByPlans(one));
                }
            }
            if (count < 6) {
                x.addFlat(0, 50);
            }
        }
        x.setRent(0, 51);
        Check.is("flat 0 is too dear", 1, () -> x.plannedFlat(0));
        Check.fails("the last one has none", NO_ELEMENT, () -> x.plannedFlat(5));
        x.give(5, 1);
        Check.is("but for the last one", 0, () -> x.plannedFlat(5));
        Check.is("by plans", 0, () -> x.plannedFlatByPlans(5));
        Check.is("settle", 6, x::settle);
        Check.is("a plan says where they live", 0, x::settle);
    }

    /** "Where tenants can live in flats that they cannot afford now; then it is none." */
    private static void p32AffordableNow() {
        TenantCensus x = Houses.withFlats(10);
        x.addTenant(1, 0, 1, 10);
        x.moveIn(0, 0);
        Check.yes("just affordable", x.isStable());
        x.setRent(0, 11);
        Check.no("too dear by one coin", x.isStable());
        x.give(0, 1);
        Check.yes("affordable again", x.isStable());
        x.pass(1);
        Check.no("after the rent is paid", x.isStable());
        x.moveOut(0);
        Check.yes("in none, as it is too dear", x.isStable());
    }

    /** "The length of the chain that would follow if a tenant moved out now." */
    private static void p33AsMoveOutSays() {
        TenantCensus x = Houses.withFlats(1, 2);
        x.addTenant(1, 0, 1, 9);
        Check.fails("in no flat", NO_ELEMENT, () -> x.chainLength(0));
        x.moveIn(0, 0);
        Check.is("nobody else", 0, () -> x.chainLength(0));
        x.addTenant(2, 0, 1, 9);
        Check.is("one in no flat", 1, () -> x.chainLength(0));
        x.moveIn(1, 1);
        Check.is("one in a worse flat", 1, () -> x.chainLength(0));
        x.addTenant(3, 0, 1, 9);
        Check.is("and one in no flat", 2, () -> x.chainLength(0));
        Check.is("of the worse flat", 1, () -> x.chainLength(1));
        Check.is("as moveOut", 2, () -> x.moveOut(0));
        Check.fails("moved out", NO_ELEMENT, () -> x.chainLength(0));
    }

    /** "The number of months, 1 to 24"; "if no tenant is evicted in these months". */
    private static void p34From1To24Months() {
        for (int rents = 0; rents <= 24; rents++) {
            int paid = rents;
            TenantCensus x = Houses.withFlats(10);
            x.addTenant(1, 0, 1, 10);
            x.moveIn(0, 0);
            x.setRent(0, 11);
            // The purse is left with what pays so many rents, and two notices follow.
            for (int coins = paid * 10 - 10; coins > 0; coins -= 90) {
                x.give(0, Math.min(coins, 90));
            }
            if (paid == 0) {
                x.setRent(0, 99);
            }
            if (paid <= 22) {
                Check.is("after " + paid + " rents", paid + 2, x::monthsUntilEviction);
            } else {
                Check.fails("after " + paid + " rents", NO_ELEMENT, x::monthsUntilEviction);
            }
            Check.is("no month has passed", 0, x::month);
            Check.is("nobody was evicted", 0, x::evictions);
            Check.is("as pass says", paid <= 22 ? 1 : 0, () -> x.pass(24));
        }
        TenantCensus y = Houses.withFlats(1);
        y.addTenant(1, 0, 1, 1);
        y.moveIn(0, 0);
        y.setRent(0, 99);
        y.pass(1);
        Check.is("in the first of the next months", 1, y::monthsUntilEviction);
        y.pass(1);
        Check.fails("nobody lives in a flat", NO_ELEMENT, y::monthsUntilEviction);
    }

    // ---- accounts

    /** Everything begins with 0 and tells only what happened. */
    private static void p35To39FromNothing() {
        TenantCensus x = Houses.withFlats(1);
        x.addTenant(1, 0, 40, 0);
        accounts(x, 0, 0, 0, 0);
        x.addTenant(1, 0, 1, 99);
        accounts(x, 0, 99, 0, 0);
        x.give(0, 1);
        accounts(x, 0, 100, 0, 0);
        x.moveIn(0, 0);
        accounts(x, 0, 100, 0, 0);
        x.pass(1);
        accounts(x, 1, 141, 1, 0);
        x.setRent(0, 99);
        x.pass(1);
        accounts(x, 2, 182, 1, 0);
        x.pass(1);
        accounts(x, 3, 223, 100, 0);
        x.pass(3);
        accounts(x, 6, 346, 199, 0);
        // 0 is evicted, 1 moves in and pays in the same month.
        x.pass(1);
        accounts(x, 7, 387, 298, 1);
        x.moveOut(1);
        accounts(x, 7, 387, 298, 1);
    }

    private static void accounts(TenantCensus x, int month, long received, int paid, int evictions) {
        Check.is("month", month, x::month);
        Check.is("received", received, x::received);
        Check.is("receivedByParts", received, x::receivedByParts);
        Check.is("paidRents", paid, x::paidRents);
        Check.is("evictions", evictions, x::evictions);
    }

    /** "An object is used for at most 512 calls": the largest sums that so many calls can bring about. */
    private static void p35To38ThroughAll512Calls() {
        TenantCensus x = Houses.withFlats(99);
        for (int tenant = 0; tenant < 6; tenant++) {
            x.addTenant(50, 0, 40, 99);
        }
        x.setRent(0, 1);
        x.moveIn(5, 0);
        for (int calls = 9; calls < 506; calls++) {
            x.pass(24);
        }
        long months = 497 * 24;
        Check.is("month", months, x::month);
        Check.is("received", 6 * (99 + months * 40), x::received);
        Check.is("receivedByParts", 6 * (99 + months * 40), x::receivedByParts);
        Check.is("paidRents", months, x::paidRents);
        Check.is("purseOf(5)", 99 + months * 39, () -> x.purseOf(5));
        Check.yes("the 512th call: isConsistent", x.isConsistent());
    }

    /** "Of those that left with tenants": with an empty purse, and with a full one. */
    private static void p37CoinsThatLeft() {
        TenantCensus x = new TenantCensus();
        x.addTenant(1, 0, 1, 0);
        x.addTenant(1, 0, 1, 99);
        x.removeTenant(0);
        Check.is("nothing left", 99, x::receivedByParts);
        x.removeTenant(1);
        Check.is("all left", 99, x::receivedByParts);
        Check.is("received", 99, x::received);
        x.pass(5);
        Check.is("nobody gets an income", 99, x::receivedByParts);
        Check.yes("isConsistent", x.isConsistent());
    }

    /** "If nobody lives in a flat." */
    private static void p40OneOrAll() {
        TenantCensus x = new TenantCensus();
        for (int flat = 0; flat < 6; flat++) {
            x.addFlat(flat, 10 + flat);
            x.addTenant(1, 0, 1, 99);
        }
        Check.fails("nobody", ARITHMETIC, () -> (long) x.meanBurden());
        double[] due = {10.0, 24.0 / 2.0, 42.0 / 3.0, 64.0 / 4.0, 90.0 / 5.0, 120.0 / 6.0};
        for (int tenant = 0; tenant < 6; tenant++) {
            x.moveIn(tenant, tenant);
            Check.same("meanBurden", x.meanBurden(), due[tenant]);
        }
        x.setRent(5, 16);
        Check.same("a quotient that is not whole", x.meanBurden(), 121.0 / 6.0);
        TenantCensus y = Houses.withFlats(1);
        y.addTenant(1, 0, 1, 1);
        y.moveIn(0, 0);
        Check.same("the least", y.meanBurden(), 1.0);
        y.moveOut(0);
        Check.fails("nobody any more", ARITHMETIC, () -> (long) y.meanBurden());
    }

    /** "If there are no flats"; 0 with only vacant flats, 1 without a vacant one. */
    private static void p41NoneOrAll() {
        TenantCensus x = new TenantCensus();
        Check.fails("no flats", ARITHMETIC, () -> (long) x.occupancy());
        for (int flat = 0; flat < 6; flat++) {
            x.addFlat(flat, 1);
            x.addTenant(1, 0, 1, 1);
            Check.same("all vacant", x.occupancy(), 0.0f);
        }
        for (int tenant = 0; tenant < 6; tenant++) {
            x.moveIn(tenant, tenant);
            Check.same("occupancy", x.occupancy(), (float) (tenant + 1) / 6.0f);
        }
        Check.same("none vacant", x.occupancy(), 1.0f);
        TenantCensus y = Houses.withFlats(1, 1, 1);
        y.addTenant(1, 0, 1, 1);
        y.moveIn(0, 1);
        Check.same("fewer tenants than flats", y.occupancy(), 1.0f / 3.0f);
        TenantCensus z = Houses.withFlats(1);
        z.addTenant(1, 0, 1, 1);
        z.addTenant(1, 0, 1, 1);
        Check.same("more tenants than flats", z.occupancy(), 0.0f);
        z.moveIn(1, 0);
        Check.same("more tenants than flats, one in it", z.occupancy(), 1.0f);
    }

    /** "Returns true if the invariants hold": they do, with the least and the most of everything. */
    private static void p42EveryHouseIsConsistent() {
        TenantCensus x = new TenantCensus();
        Check.yes("nothing", x.isConsistent());
        for (int index = 0; index < 6; index++) {
            int step = index;
            x.addFlat(step % 2 == 0 ? 0 : 5, step % 2 == 0 ? 1 : 99);
            Check.yes("flats", x.isConsistent());
            x.addTenant(step % 2 == 0 ? 1 : 50, step % 2 == 0 ? 5 : 0, step % 2 == 0 ? 1 : 40, step % 2 == 0 ? 0 : 99);
            Check.yes("tenants", x.isConsistent());
        }
        for (int tenant = 0; tenant < 6; tenant++) {
            x.give(tenant, 1);
            x.moveIn(tenant, tenant);
            Check.yes("all in flats", x.isConsistent());
        }
        for (int months = 0; months < 6; months++) {
            x.pass(1);
            x.setRent(2 * (months % 3), 99);
            Check.yes("with notices, evictions and empty purses", x.isConsistent());
        }
        for (int tenant = 0; tenant < 6; tenant += 2) {
            int one = tenant;
            Check.outcome(() -> x.moveOut(one));
            x.removeTenant(tenant);
            Check.yes("with gaps", x.isConsistent());
        }
        x.addTenant(1, 0, 1, 0);
        Check.yes("with a tenant behind the gaps", x.isConsistent());
        Check.yes("the lively house", Houses.lively().isConsistent());
        Check.yes("the full house", Houses.full().isConsistent());
    }

    // ---- output

    /** "For each flat on it": none, one, six; "and the tenant if it is not vacant". */
    private static void p43FromAnEmptyFloorToSixFlats() {
        TenantCensus x = new TenantCensus();
        StringBuilder due = new StringBuilder("5~0");
        for (int flat = 0; flat <= 6; flat++) {
            written("writeFloor(5)", x, x.writeFloor(5), due.toString());
            written("writeFloor(0)", x, x.writeFloor(0), "0~0");
            if (flat < 6) {
                x.addFlat(5, flat % 2 == 0 ? 1 : 99);
                due.append(' ').append(flat).append(flat % 2 == 0 ? "=1" : "=99");
            }
        }
        for (int tenant = 0; tenant < 6; tenant++) {
            x.addTenant(50, 5, 1, 99);
            x.moveIn(tenant, 5 - tenant);
        }
        written("all six", x, x.writeFloor(5), "5~300 0=1:5 1=99:4 2=1:3 3=99:2 4=1:1 5=99:0");
        Check.fails("writeFloor(6)", NO_INDEX, () -> x.writeFloor(6));
        Check.fails("writeFloor(-1)", NO_INDEX, () -> x.writeFloor(-1));
        Check.same("the line stays", Calls.line(x), "5~300 0=1:5 1=99:4 2=1:3 3=99:2 4=1:1 5=99:0");
    }

    /** Numbers of one, two and three digits, and the round ones among them. */
    private static void p43And44NumbersOfMoreDigits() {
        for (int rent : new int[] {1, 9, 10, 11, 19, 20, 90, 99}) {
            TenantCensus x = Houses.withFlats(rent);
            written("rent " + rent, x, x.writeFloor(0), "0~0 0=" + rent);
        }
        for (int creak : new int[] {2, 9, 10, 11, 19, 20, 21, 90, 99, 100}) {
            TenantCensus x = Houses.withFlats(1, 1);
            x.addTenant(creak / 2, 0, 1, 1);
            x.addTenant(creak - creak / 2, 0, 1, 1);
            x.moveIn(0, 1);
            x.moveIn(1, 0);
            written("creak " + creak, x, x.writeFloor(0), "0~" + creak + " 0=1:1 1=1:0");
        }
        for (int number : new int[] {1, 9, 10, 11, 19, 20, 99, 100, 101, 110, 200}) {
            TenantCensus x = Houses.withFlats(1);
            for (int before = 0; before < number; before++) {
                x.addTenant(1, 0, 1, 1);
                x.removeTenant(before);
            }
            x.addTenant(1, 0, 1, 1);
            x.addTenant(1, 0, 1, 1);
            x.moveIn(number, 0);
            written("tenant " + number, x, x.writeFloor(0), "0~1 0=1:" + number);
            written("tenant " + number, x, x.writePlan(), number + ">0 " + (number + 1) + ">-");
        }
    }

    private static void written(String what, TenantCensus x, int length, String due) {
        Check.same(what, Calls.line(x), due);
        Check.same("length of " + what, length, due.length());
    }

    /** "The line is empty without tenants"; "or '-' if it gives none". */
    private static void p44FromNoTenantToSix() {
        TenantCensus x = new TenantCensus();
        x.writeFloor(0);
        written("without tenants", x, x.writePlan(), "");
        StringBuilder none = new StringBuilder();
        for (int tenant = 0; tenant < 6; tenant++) {
            x.addTenant(1, 0, 1, 9);
            none.append(tenant == 0 ? "" : " ").append(tenant).append(">-");
            written("without flats", x, x.writePlan(), none.toString());
        }
        for (int flat = 0; flat < 6; flat++) {
            x.addFlat(5 - flat, 9);
        }
        written("a flat for each", x, x.writePlan(), "0>5 1>4 2>3 3>2 4>1 5>0");
        x.setRent(5, 10);
        written("one is too dear", x, x.writePlan(), "0>4 1>3 2>2 3>1 4>0 5>-");
        for (int tenant = 0; tenant < 6; tenant++) {
            x.removeTenant(tenant);
        }
        written("without tenants any more", x, x.writePlan(), "");
    }

    /** "If the index is negative or not less than the length." */
    private static void p45FirstAndLastCharacter() {
        TenantCensus x = Houses.withFlats(99);
        Check.fails("initially empty", NO_INDEX, () -> x.charAt(0));
        Check.is("writeFloor(0)", 8, () -> x.writeFloor(0));
        Check.fails("charAt(-1)", NO_INDEX, () -> x.charAt(-1));
        Check.same("charAt(0)", x.charAt(0), '0');
        Check.same("charAt(7)", x.charAt(7), '9');
        Check.fails("charAt(8)", NO_INDEX, () -> x.charAt(8));
        Check.is("a shorter line", 3, () -> x.writeFloor(1));
        Check.same("charAt(2)", x.charAt(2), '0');
        Check.fails("charAt(3), where the old line went on", NO_INDEX, () -> x.charAt(3));
        Check.is("an empty line", 0, x::writePlan);
        Check.fails("charAt(0)", NO_INDEX, () -> x.charAt(0));
    }
}
