import java.util.NoSuchElementException;

/** The boundary cases that the document names under "Terms", sentence by sentence. */
public final class TermsTest {
    private static final Class<NoSuchElementException> NO_ELEMENT = NoSuchElementException.class;
    private static final Class<IllegalArgumentException> BAD_ARGUMENT = IllegalArgumentException.class;
    private static final Class<IllegalStateException> BAD_STATE = IllegalStateException.class;
    private static final Class<UnsupportedOperationException> UNSUPPORTED = UnsupportedOperationException.class;

    private TermsTest() {
    }

    public static void main(String[] args) {
        theHouseHasTheFloorsZeroToFive();
        thereAreAtMostSixFlats();
        aRentIsFrom1To99();
        atMostOneTenantLivesInAFlat();
        atMostSixTenantsArePresent();
        numbersAreNotUsedAgain();
        aTenantHas();
        absoluteDifference();
        affordableIfNotGreater();
        theSmallerBurdenThenTheSmallerNumber();
        anyFlatIsPreferredToNone();
        theSmallerWeightThenTheSmallerNumber();
        aChainWithoutCandidates();
        candidatesPreferTheFlat();
        candidatesCanAffordTheFlat();
        theLongestChain();
        movingTwiceInAChain();
        sixteenMovesInAChain();
        noticesStayInAChain();
        theIncomeComesFirst();
        thePurseSuffices();
        theSecondNotice();
        aPaymentEndsTheNotices();
        noticesWithoutAFlat();
        theEvictedTenantIsNoCandidate();
        whoseTurnComesLaterPaysToo();
        aChainLetsAnotherOneGoFree();
        theSumOfWeights();
        differentCensuses();
        plansGiveOnlyAffordableFlats();
        stablePlansLeaveNoFreeFlatThatIsPreferred();
        stablePlansLeaveNoFlatToAHeavierTenant();
        sixTenantsAndAFlatThatNobodyWants();
        askingOftenInARow();
        Check.end("TermsTest");
    }

    // ---- flats

    /** "The house has the floors 0 to 5." */
    private static void theHouseHasTheFloorsZeroToFive() {
        TenantCensus x = new TenantCensus();
        Check.fails("a flat on floor -1", BAD_ARGUMENT, () -> x.addFlat(-1, 1));
        Check.is("a flat on floor 0", 0, () -> x.addFlat(0, 1));
        Check.is("a flat on floor 5", 1, () -> x.addFlat(5, 1));
        Check.fails("a flat on floor 6", BAD_ARGUMENT, () -> x.addFlat(6, 1));
        Check.is("floorOf(0)", 0, () -> x.floorOf(0));
        Check.is("floorOf(1)", 5, () -> x.floorOf(1));
    }

    /** "There are at most 6 flats, numbered from 0 in the order in which they were added." */
    private static void thereAreAtMostSixFlats() {
        TenantCensus x = new TenantCensus();
        for (int number = 0; number < 6; number++) {
            int flat = number;
            Check.is("a flat", flat, () -> x.addFlat(5 - flat, 9 + flat));
        }
        Check.fails("a seventh flat", BAD_STATE, () -> x.addFlat(0, 1));
        for (int number = 0; number < 6; number++) {
            int flat = number;
            Check.is("floorOf", 5 - flat, () -> x.floorOf(flat));
            Check.is("rentOf", 9 + flat, () -> x.rentOf(flat));
        }
        x.undo();
        Check.is("flats", 5, x::flats);
        Check.is("the sixth again", 5, () -> x.addFlat(1, 2));
        Check.fails("a seventh again", BAD_STATE, () -> x.addFlat(0, 1));
        Check.is("rentOf(5)", 2, () -> x.rentOf(5));
    }

    /** "A flat is on a floor and has a rent from 1 to 99 coins." */
    private static void aRentIsFrom1To99() {
        TenantCensus x = new TenantCensus();
        Check.fails("rent 0", BAD_ARGUMENT, () -> x.addFlat(0, 0));
        Check.is("rent 1", 0, () -> x.addFlat(0, 1));
        Check.is("rent 99", 1, () -> x.addFlat(0, 99));
        Check.fails("rent 100", BAD_ARGUMENT, () -> x.addFlat(0, 100));
        Check.is("rentOf(0)", 1, () -> x.rentOf(0));
        Check.is("rentOf(1)", 99, () -> x.rentOf(1));
    }

    /** "At most one tenant lives in a flat; a flat without a tenant is vacant." */
    private static void atMostOneTenantLivesInAFlat() {
        TenantCensus x = Houses.withFlats(5);
        x.addTenant(1, 0, 1, 5);
        x.addTenant(1, 0, 1, 5);
        Check.is("vacant", 1, x::vacantFlats);
        Check.fails("nobody is in it", NO_ELEMENT, () -> x.tenantIn(0));
        x.moveIn(1, 0);
        Check.is("not vacant", 0, x::vacantFlats);
        Check.is("one is in it", 1, () -> x.tenantIn(0));
        Check.fails("a second one", BAD_STATE, () -> x.moveIn(0, 0));
        Check.is("the other one moves in", 1, () -> x.moveOut(1));
        Check.is("not vacant", 0, x::vacantFlats);
        Check.is("one is in it again", 0, () -> x.tenantIn(0));
    }

    // ---- tenants

    /** "At most 6 tenants are present." */
    private static void atMostSixTenantsArePresent() {
        TenantCensus x = new TenantCensus();
        for (int number = 0; number < 6; number++) {
            x.addTenant(1, 0, 1, 0);
        }
        Check.fails("a seventh tenant", BAD_STATE, () -> x.addTenant(1, 0, 1, 0));
        Check.is("tenants", 6, x::tenants);
        Check.is("five stay", 5, () -> x.removeTenant(0));
        Check.is("another sixth", 6, () -> x.addTenant(1, 0, 1, 0));
        Check.fails("another seventh", BAD_STATE, () -> x.addTenant(1, 0, 1, 0));
        x.undo();
        Check.is("five again", 5, x::tenants);
        Check.is("a sixth again", 6, () -> x.addTenant(1, 0, 1, 0));
    }

    /** "The numbers are consecutive, begin with 0, and are not used again." */
    private static void numbersAreNotUsedAgain() {
        TenantCensus x = new TenantCensus();
        for (int number = 0; number < 60; number++) {
            int tenant = number;
            Check.is("addTenant", tenant, () -> x.addTenant(1, 0, 1, 0));
            Check.is("removeTenant", 0, () -> x.removeTenant(tenant));
            Check.no("isPresent", x.isPresent(tenant));
        }
        Check.fails("a refused one uses no number", BAD_ARGUMENT, () -> x.addTenant(0, 0, 1, 0));
        Check.is("the next number", 60, () -> x.addTenant(1, 0, 1, 0));
    }

    /** "A weight from 1 to 50, a wished floor, an income from 1 to 40 coins, .. notices, initially 0." */
    private static void aTenantHas() {
        TenantCensus x = Houses.withFlats(1);
        Check.fails("weight 0", BAD_ARGUMENT, () -> x.addTenant(0, 0, 1, 0));
        Check.fails("wish -1", BAD_ARGUMENT, () -> x.addTenant(1, -1, 1, 0));
        Check.fails("income 0", BAD_ARGUMENT, () -> x.addTenant(1, 0, 0, 0));
        Check.fails("purse -1", BAD_ARGUMENT, () -> x.addTenant(1, 0, 1, -1));
        Check.is("the least of all", 0, () -> x.addTenant(1, 0, 1, 0));
        Check.fails("weight 51", BAD_ARGUMENT, () -> x.addTenant(51, 5, 40, 99));
        Check.fails("wish 6", BAD_ARGUMENT, () -> x.addTenant(50, 6, 40, 99));
        Check.fails("income 41", BAD_ARGUMENT, () -> x.addTenant(50, 5, 41, 99));
        Check.fails("purse 100", BAD_ARGUMENT, () -> x.addTenant(50, 5, 40, 100));
        Check.is("the most of all", 1, () -> x.addTenant(50, 5, 40, 99));
        int[][] due = {{1, 1, 0, 1}, {50, 16, 99, 139}};
        for (int number = 0; number < 2; number++) {
            int tenant = number;
            Check.is("weight", due[tenant][0], () -> x.weightOf(tenant));
            Check.is("wish", due[tenant][1], () -> x.burden(tenant, 0));
            Check.is("purse", due[tenant][2], () -> x.purseOf(tenant));
            Check.is("notices", 0, () -> x.noticesOf(tenant));
            Check.fails("home", NO_ELEMENT, () -> x.flatOf(tenant));
        }
        x.pass(1);
        for (int number = 0; number < 2; number++) {
            int tenant = number;
            Check.is("purse with the income", due[tenant][3], () -> x.purseOf(tenant));
        }
    }

    // ---- burdens and preferences

    /** "Its rent plus 3 times the absolute difference of its floor and the wished floor." */
    private static void absoluteDifference() {
        TenantCensus x = new TenantCensus();
        for (int floor = 0; floor < 6; floor++) {
            x.addFlat(floor, 1 + floor);
            x.addTenant(1, floor, 1, 0);
        }
        for (int wish = 0; wish < 6; wish++) {
            for (int floor = 0; floor < 6; floor++) {
                int tenant = wish;
                int flat = floor;
                int steps = wish < floor ? floor - wish : wish - floor;
                Check.is("burden(" + wish + ", " + floor + ")", 1 + floor + 3 * steps, () -> x.burden(tenant, flat));
            }
        }
    }

    /** "A tenant can afford a flat if its rent is not greater than the purse." */
    private static void affordableIfNotGreater() {
        TenantCensus x = Houses.withFlats(50);
        x.addTenant(1, 5, 1, 49);
        Check.fails("one coin too few", UNSUPPORTED, () -> x.moveIn(0, 0));
        Check.fails("and no plan", NO_ELEMENT, () -> x.plannedFlat(0));
        x.setRent(0, 49);
        Check.is("the plan with just enough", 0, () -> x.plannedFlat(0));
        Check.is("just enough, though the burden is more", 64, () -> x.moveIn(0, 0));
        TenantCensus y = Houses.withFlats(1);
        y.addTenant(1, 0, 1, 0);
        Check.fails("an empty purse", UNSUPPORTED, () -> y.moveIn(0, 0));
        y.give(0, 1);
        Check.is("one coin", 1, () -> y.moveIn(0, 0));
    }

    /** "A tenant prefers the flat with the smaller burden; of equal burdens, the one with the smaller number." */
    private static void theSmallerBurdenThenTheSmallerNumber() {
        TenantCensus x = new TenantCensus();
        x.addFlat(1, 13);
        x.addFlat(2, 10);
        x.addFlat(3, 7);
        x.addFlat(5, 1);
        x.addFlat(4, 5);
        x.addTenant(1, 5, 1, 99);
        // The burdens are 25, 19, 13, 1, 8.
        ranks(x, 0, 3, 4, 2, 1, 0);
        x.addTenant(1, 0, 1, 99);
        // The burdens are 16, 16, 16, 16, 17.
        ranks(x, 1, 0, 1, 2, 3, 4);
        x.setRent(3, 2);
        ranks(x, 1, 0, 1, 2, 3, 4);
        x.setRent(4, 4);
        x.setRent(2, 8);
        // The burdens are 16, 16, 17, 17, 16.
        ranks(x, 1, 0, 1, 4, 2, 3);
    }

    private static void ranks(TenantCensus x, int tenant, int... due) {
        for (int rank = 0; rank < due.length; rank++) {
            int at = rank;
            Check.is("flatByRank(" + tenant + ", " + rank + ")", due[rank], () -> x.flatByRank(tenant, at));
        }
        Check.fails("a rank too far", NO_ELEMENT, () -> x.flatByRank(tenant, due.length));
        Check.fails("rank -1", NO_ELEMENT, () -> x.flatByRank(tenant, -1));
    }

    /** "And any flat to none." */
    private static void anyFlatIsPreferredToNone() {
        TenantCensus x = new TenantCensus();
        x.addFlat(5, 99);
        x.addTenant(1, 0, 1, 99);
        x.addTenant(50, 0, 1, 99);
        Check.is("the worst flat is planned", 0, () -> x.plannedFlat(0));
        Check.no("none is not stable", x.isStable());
        x.moveIn(0, 0);
        Check.is("the worst flat is taken", 1, () -> x.moveOut(0));
        Check.is("tenantIn(0)", 1, () -> x.tenantIn(0));
    }

    /** "A flat prefers the tenant with the smaller weight; of equal weights, the one with the smaller number." */
    private static void theSmallerWeightThenTheSmallerNumber() {
        TenantCensus x = Houses.withFlats(5);
        x.addTenant(20, 0, 1, 5);
        x.addTenant(19, 0, 1, 99);
        x.addTenant(18, 0, 1, 5);
        x.addTenant(18, 0, 1, 99);
        Check.is("the lightest, of two the first", 0, () -> x.plannedFlat(2));
        Check.fails("the second of two", NO_ELEMENT, () -> x.plannedFlat(3));
        x.moveIn(0, 0);
        Check.no("the other one is preferred", x.isStable());
        x.moveOut(0);
        Check.is("the lightest, of two the first", 2, () -> x.tenantIn(0));
        Check.yes("stable", x.isStable());
        x.moveOut(2);
        Check.is("then the second", 3, () -> x.tenantIn(0));
        Check.no("the first is preferred", x.isStable());
        x.removeTenant(2);
        Check.yes("but is gone", x.isStable());
        x.moveOut(3);
        Check.is("then the one of 19", 1, () -> x.tenantIn(0));
    }

    // ---- chains

    /** "If there are candidates, ..": without one, the flat stays vacant, and the length is 0. */
    private static void aChainWithoutCandidates() {
        TenantCensus x = Houses.withFlats(5, 4);
        x.addTenant(9, 0, 1, 9);
        Check.is("moveIn", 5, () -> x.moveIn(0, 0));
        Check.is("the only tenant", 0, () -> x.chainLength(0));
        x.addTenant(1, 0, 1, 4);
        x.moveIn(1, 1);
        x.addTenant(1, 0, 1, 4);
        Check.is("one is content, one too poor", 0, () -> x.chainLength(0));
        Check.is("moveOut", 0, () -> x.moveOut(0));
        Check.is("it stays vacant", 1, x::vacantFlats);
        Check.fails("tenantIn(0)", NO_ELEMENT, () -> x.tenantIn(0));
    }

    /** "And live in no flat or prefer it to their own one": of equal burdens, the smaller number. */
    private static void candidatesPreferTheFlat() {
        TenantCensus x = Houses.withFlats(10, 11, 10);
        x.addTenant(9, 0, 1, 50);
        x.addTenant(1, 0, 1, 50);
        x.moveIn(0, 1);
        x.moveIn(1, 2);
        Check.is("11 is worse than 10", 0, () -> x.chainLength(0));
        x.setRent(1, 10);
        Check.is("equal, but the number is smaller", 1, () -> x.chainLength(0));
        x.setRent(2, 9);
        Check.is("10 is worse than 9", 0, () -> x.chainLength(0));
        x.setRent(1, 8);
        Check.is("8 is better than 9", 1, () -> x.chainLength(0));
        x.setRent(1, 9);
        Check.is("equal, and the other number is larger", 0, () -> x.chainLength(1));
    }

    /** "Those tenants who can afford it." */
    private static void candidatesCanAffordTheFlat() {
        TenantCensus x = Houses.withFlats(10);
        x.addTenant(9, 0, 1, 50);
        x.addTenant(1, 0, 1, 9);
        x.moveIn(0, 0);
        Check.is("one coin too few", 0, () -> x.chainLength(0));
        x.give(1, 1);
        Check.is("just enough", 1, () -> x.chainLength(0));
    }

    /** "The flat that this tenant leaves, if there is one, becomes vacant in the chain, and so on." */
    private static void theLongestChain() {
        TenantCensus x = Houses.withFlats(1, 2, 3, 4, 5, 6);
        for (int tenant = 0; tenant < 6; tenant++) {
            x.addTenant(tenant == 0 ? 50 : tenant, 0, 1, 50);
            x.moveIn(tenant, tenant);
        }
        for (int number = 0; number < 6; number++) {
            int tenant = number;
            Check.is("chainLength(" + tenant + ")", 5 - tenant, () -> x.chainLength(tenant));
        }
        Check.is("moveOut(0)", 5, () -> x.moveOut(0));
        for (int number = 1; number < 6; number++) {
            int tenant = number;
            Check.is("flatOf(" + tenant + ")", tenant - 1, () -> x.flatOf(tenant));
        }
        Check.is("the last one stays vacant", 1, x::vacantFlats);
        Check.fails("tenantIn(5)", NO_ELEMENT, () -> x.tenantIn(5));
        Check.is("a chain ends with one who lived in no flat", 5, () -> x.moveOut(1));
        Check.is("tenantIn(4)", 0, () -> x.tenantIn(4));
    }

    /** "The length of a chain is the number of tenants who move in": each as often as that happens. */
    private static void movingTwiceInAChain() {
        TenantCensus x = new TenantCensus();
        x.addFlat(0, 1);
        x.addFlat(3, 11);
        x.addFlat(5, 6);
        x.addTenant(9, 0, 1, 50);
        x.addTenant(1, 5, 1, 50);
        x.addTenant(2, 3, 1, 50);
        for (int tenant = 0; tenant < 3; tenant++) {
            x.moveIn(tenant, tenant);
        }
        // 1 moves to flat 0, 2 to flat 1, 1 on to flat 2, and 2 on to flat 0.
        Check.is("chainLength(0)", 4, () -> x.chainLength(0));
        Check.is("moveOut(0)", 4, () -> x.moveOut(0));
        Check.is("flatOf(1)", 2, () -> x.flatOf(1));
        Check.is("flatOf(2)", 0, () -> x.flatOf(2));
        Check.is("vacantFlats", 1, x::vacantFlats);
    }

    /** A chain has no bound but that nobody moves any more: in this one, all move again and again. */
    private static void sixteenMovesInAChain() {
        TenantCensus x = house(new int[][] {
            {3, 20, 2, 5, 60}, {5, 15, 1, 0, 60}, {4, 18, 2, 0, 60}, {0, 20, 4, 2, 38}, {1, 12, 4, 5, 60},
            {2, 19, 3, 3, 60},
        });
        for (int tenant = 0; tenant < 6; tenant++) {
            x.moveIn(tenant, tenant);
        }
        Check.is("chainLength(0)", 16, () -> x.chainLength(0));
        Check.is("moveOut(0)", 16, () -> x.moveOut(0));
        Check.is("vacantFlats", 1, x::vacantFlats);
        Check.yes("isConsistent", x.isConsistent());
    }

    /** Of each row: the floor and the rent of a flat, and the weight, the wish and the purse of a tenant. */
    private static TenantCensus house(int[][] rows) {
        TenantCensus x = new TenantCensus();
        for (int[] row : rows) {
            x.addFlat(row[0], row[1]);
            x.addTenant(row[2], row[3], 1, row[4]);
        }
        return x;
    }

    /** Nobody but the one who moves out loses notices in a chain. */
    private static void noticesStayInAChain() {
        TenantCensus x = Houses.withFlats(5, 9);
        x.addTenant(1, 0, 1, 9);
        x.addTenant(2, 0, 1, 9);
        x.moveIn(0, 0);
        x.moveIn(1, 1);
        x.setRent(1, 99);
        x.pass(1);
        Check.is("a notice", 1, () -> x.noticesOf(1));
        Check.is("moveOut(0)", 1, () -> x.moveOut(0));
        Check.is("1 has moved", 0, () -> x.flatOf(1));
        Check.is("the notice stays", 1, () -> x.noticesOf(1));
        x.setRent(0, 99);
        Check.is("the second notice", 1, () -> x.pass(1));
    }

    // ---- months

    /** "The tenant gets the income; then a tenant who lives in a flat pays its rent." */
    private static void theIncomeComesFirst() {
        TenantCensus x = Houses.withFlats(10);
        x.addTenant(1, 0, 9, 10);
        x.addTenant(1, 0, 7, 0);
        x.moveIn(0, 0);
        x.pass(1);
        Check.is("pays", 9, () -> x.purseOf(0));
        Check.is("in no flat, pays nothing", 7, () -> x.purseOf(1));
        Check.is("paidRents", 10, x::paidRents);
        x.pass(1);
        Check.is("9 + 9 suffice", 8, () -> x.purseOf(0));
        Check.is("noticesOf(0)", 0, () -> x.noticesOf(0));
    }

    /** "Pays its rent, if the purse suffices, .. or pays nothing and gets a notice." */
    private static void thePurseSuffices() {
        TenantCensus x = Houses.withFlats(20);
        x.addTenant(1, 0, 1, 20);
        x.moveIn(0, 0);
        x.setRent(0, 21);
        Check.is("just enough with the income", 0, () -> x.pass(1));
        Check.is("purseOf(0)", 0, () -> x.purseOf(0));
        Check.is("noticesOf(0)", 0, () -> x.noticesOf(0));
        x.undo();
        x.setRent(0, 22);
        Check.is("one coin too few", 0, () -> x.pass(1));
        Check.is("purseOf(0)", 21, () -> x.purseOf(0));
        Check.is("noticesOf(0)", 1, () -> x.noticesOf(0));
        Check.is("paidRents", 0, x::paidRents);
    }

    /** "With the second notice, the tenant is evicted, .. lives in no flat and has no notices any more." */
    private static void theSecondNotice() {
        TenantCensus x = Houses.withFlats(9);
        x.addTenant(1, 0, 1, 9);
        x.moveIn(0, 0);
        x.setRent(0, 99);
        Check.is("the first notice", 0, () -> x.pass(1));
        Check.is("noticesOf(0)", 1, () -> x.noticesOf(0));
        Check.is("flatOf(0)", 0, () -> x.flatOf(0));
        Check.is("evictions", 0, x::evictions);
        Check.is("the second notice", 1, () -> x.pass(1));
        Check.is("noticesOf(0)", 0, () -> x.noticesOf(0));
        Check.fails("flatOf(0)", NO_ELEMENT, () -> x.flatOf(0));
        Check.is("evictions", 1, x::evictions);
        Check.is("vacantFlats", 1, x::vacantFlats);
        Check.is("in no flat, no notices come", 0, () -> x.pass(24));
        Check.is("noticesOf(0)", 0, () -> x.noticesOf(0));
    }

    /** "And has no notices any more": two notices with a payment between them are no second notice. */
    private static void aPaymentEndsTheNotices() {
        TenantCensus x = Houses.withFlats(9);
        x.addTenant(1, 0, 1, 9);
        x.moveIn(0, 0);
        for (int round = 0; round < 3; round++) {
            x.setRent(0, 99);
            Check.is("a notice", 0, () -> x.pass(1));
            Check.is("noticesOf(0)", 1, () -> x.noticesOf(0));
            x.setRent(0, 1);
            Check.is("a payment", 0, () -> x.pass(1));
            Check.is("noticesOf(0)", 0, () -> x.noticesOf(0));
        }
    }

    /** Nothing but a payment, an eviction and moveOut ends notices: they stay with settle and a new home. */
    private static void noticesWithoutAFlat() {
        TenantCensus x = Houses.withFlats(9, 50);
        x.addTenant(5, 0, 1, 9);
        x.addTenant(1, 0, 1, 20);
        x.moveIn(0, 0);
        x.setRent(0, 11);
        x.pass(1);
        Check.is("a notice", 1, () -> x.noticesOf(0));
        Check.is("the lighter one lives there, this one nowhere", 2, x::settle);
        Check.is("the notice stays", 1, () -> x.noticesOf(0));
        x.pass(1);
        Check.is("the notice stays in no flat", 1, () -> x.noticesOf(0));
        x.setRent(0, 12);
        x.give(0, 40);
        Check.is("in another flat", 50, () -> x.moveIn(0, 1));
        Check.is("the notice stays there", 1, () -> x.noticesOf(0));
        x.setRent(1, 99);
        Check.is("the second notice", 1, () -> x.pass(1));
        Check.fails("evicted", NO_ELEMENT, () -> x.flatOf(0));
    }

    /** "The flat becomes vacant in a chain in which the evicted tenant is no candidate." */
    private static void theEvictedTenantIsNoCandidate() {
        TenantCensus x = new TenantCensus();
        x.addFlat(0, 20);
        x.addFlat(5, 10);
        x.addTenant(1, 0, 4, 20);
        x.addTenant(9, 0, 20, 50);
        x.moveIn(0, 0);
        x.moveIn(1, 1);
        Check.is("pass(2)", 0, () -> x.pass(2));
        Check.is("noticesOf(0)", 1, () -> x.noticesOf(0));
        Check.is("pass(1)", 1, () -> x.pass(1));
        Check.is("1 has moved", 0, () -> x.flatOf(1));
        Check.fails("0 lives in no flat", NO_ELEMENT, () -> x.flatOf(0));
        Check.is("though flat 1 is vacant", 1, x::vacantFlats);
        Check.is("and 0 could afford it", 12, () -> x.purseOf(0));
        Check.is("1 pays for the new flat", 50 + 60 - 10 - 10 - 20, () -> x.purseOf(1));
    }

    /** "A tenant whose turn comes after having moved in pays, too." */
    private static void whoseTurnComesLaterPaysToo() {
        TenantCensus x = Houses.withFlats(10);
        x.addTenant(1, 0, 1, 10);
        x.addTenant(9, 0, 1, 50);
        x.moveIn(0, 0);
        x.pass(2);
        Check.is("pass(1)", 1, () -> x.pass(1));
        Check.is("1 is in", 1, () -> x.tenantIn(0));
        Check.is("1 pays in this month", 50 + 3 - 10, () -> x.purseOf(1));
        TenantCensus y = Houses.withFlats(10);
        y.addTenant(9, 0, 1, 50);
        y.addTenant(1, 0, 1, 10);
        y.moveIn(1, 0);
        y.pass(2);
        Check.is("pass(1)", 1, () -> y.pass(1));
        Check.is("0 is in", 0, () -> y.tenantIn(0));
        Check.is("0, whose turn was before, does not pay", 53, () -> y.purseOf(0));
        y.pass(1);
        Check.is("but in the next month", 44, () -> y.purseOf(0));
    }

    /** "The next tenant follows when the chain has ended." */
    private static void aChainLetsAnotherOneGoFree() {
        TenantCensus x = new TenantCensus();
        x.addFlat(0, 10);
        x.addFlat(5, 10);
        x.addTenant(1, 0, 1, 10);
        x.addTenant(2, 0, 1, 31);
        x.addTenant(3, 0, 1, 9);
        x.moveIn(0, 0);
        x.moveIn(1, 1);
        x.pass(2);
        x.setRent(1, 12);
        // 0 is evicted; 1 moves to flat 0 and pays 10; 2, with 11 coins, cannot afford flat 1 before the income.
        Check.is("pass(1)", 1, () -> x.pass(1));
        Check.is("flatOf(1)", 0, () -> x.flatOf(1));
        Check.is("purseOf(1)", 31 + 3 - 30, () -> x.purseOf(1));
        Check.fails("flatOf(2)", NO_ELEMENT, () -> x.flatOf(2));
        Check.is("purseOf(2)", 12, () -> x.purseOf(2));
        x.undo();
        x.setRent(1, 11);
        Check.is("pass(1)", 1, () -> x.pass(1));
        Check.is("2, with 11 coins, moves into flat 1 and pays", 1, () -> x.flatOf(2));
        Check.is("purseOf(2)", 1, () -> x.purseOf(2));
    }

    // ---- creaks and plans

    /** "The sum of the weights of the tenants who live in flats on it": 0 without one. */
    private static void theSumOfWeights() {
        TenantCensus x = new TenantCensus();
        for (int flat = 0; flat < 6; flat++) {
            x.addFlat(5, 1);
            x.addTenant(50, 0, 1, 1);
        }
        Check.is("nobody lives there", 0, () -> x.creak(5));
        for (int number = 0; number < 6; number++) {
            int tenant = number;
            x.moveIn(tenant, tenant);
            Check.is("creak(5)", 50 * (tenant + 1), () -> x.creak(5));
        }
        Check.is("creak(4)", 0, () -> x.creak(4));
        Check.is("all on one floor", 1, x::censuses);
        Check.is("all on one floor, by sets", 1, x::censusesBySets);
        Check.is("possibleFloors(3)", 1, () -> x.possibleFloors(3));
    }

    /** "Two of them are different if a tenant is on different floors." */
    private static void differentCensuses() {
        TenantCensus x = new TenantCensus();
        x.addFlat(0, 1);
        x.addFlat(5, 1);
        x.addFlat(5, 1);
        x.addTenant(3, 0, 1, 9);
        x.addTenant(2, 5, 1, 9);
        x.addTenant(1, 5, 1, 9);
        x.addTenant(3, 5, 1, 9);
        Check.is("by sets first", 1, x::censusesBySets);
        spread(x, 1, 0);
        x.moveIn(0, 0);
        Check.is("by sets first", 1, x::censusesBySets);
        spread(x, 1, 1);
        x.moveIn(1, 1);
        spread(x, 1, 1);
        x.moveIn(2, 2);
        // 3 on floor 0 and 2 + 1 on floor 5, or the other way round: flats do not matter.
        spread(x, 2, 2);
        Check.is("possibleFloors(3), in no flat", 0, () -> x.possibleFloors(3));
    }

    private static void spread(TenantCensus x, int censuses, int floors) {
        Check.is("censuses", censuses, x::censuses);
        Check.is("censusesBySets", censuses, x::censusesBySets);
        Check.is("possibleFloors(0)", floors, () -> x.possibleFloors(0));
    }

    /** "At most one to each tenant, and each flat to at most one, and only flats that the tenants can afford." */
    private static void plansGiveOnlyAffordableFlats() {
        TenantCensus x = Houses.withFlats(10, 9, 8);
        x.addTenant(1, 0, 1, 7);
        Check.fails("all too dear", NO_ELEMENT, () -> x.plannedFlat(0));
        Check.fails("all too dear, by plans", NO_ELEMENT, () -> x.plannedFlatByPlans(0));
        Check.yes("none is stable", x.isStable());
        for (int flat = 2; flat >= 0; flat--) {
            int due = flat;
            x.give(0, 1);
            x.setRent(2, due == 2 ? 8 : 99);
            x.setRent(1, due >= 1 ? 9 : 99);
            Check.is("just affordable", due, () -> x.plannedFlat(0));
            Check.is("just affordable, by plans", due, () -> x.plannedFlatByPlans(0));
            Check.no("none is not stable", x.isStable());
        }
        x.setRent(0, 99);
        Check.is("one stable plan, the empty one", 1, x::stablePlans);
    }

    /** "No tenant with a flat that this tenant can afford and prefers .., and that is given to nobody." */
    private static void stablePlansLeaveNoFreeFlatThatIsPreferred() {
        TenantCensus x = Houses.withFlats(10, 10, 10);
        x.addTenant(1, 0, 1, 10);
        x.moveIn(0, 1);
        Check.no("flat 0 is free and equal, but has the smaller number", x.isStable());
        x.setRent(0, 11);
        Check.yes("flat 0 is free, but too dear", x.isStable());
        x.setRent(2, 9);
        Check.no("flat 2 is free and better", x.isStable());
        x.setRent(2, 10);
        Check.yes("flat 2 is free and equal", x.isStable());
        x.give(0, 1);
        Check.yes("flat 0 is free and worse", x.isStable());
        Check.is("the plan", 1, () -> x.plannedFlat(0));
    }

    /** "Or prefers this tenant to the one who gets it." */
    private static void stablePlansLeaveNoFlatToAHeavierTenant() {
        TenantCensus x = Houses.withFlats(10, 20);
        x.addTenant(5, 0, 1, 10);
        x.addTenant(5, 0, 1, 50);
        x.moveIn(0, 0);
        x.moveIn(1, 1);
        Check.yes("of equal weights the smaller number", x.isStable());
        x.undo();
        x.undo();
        x.moveIn(1, 0);
        Check.no("0 can afford flat 0 and is preferred", x.isStable());
        x.setRent(0, 11);
        Check.yes("0 cannot afford flat 0 any more", x.isStable());
        x.setRent(1, 10);
        Check.no("but flat 1", x.isStable());
        Check.is("plannedFlat(0)", 1, () -> x.plannedFlat(0));
        Check.is("plannedFlat(1)", 0, () -> x.plannedFlat(1));
    }

    /** A flat that is too dear for all six, and one that is worse than theirs for all who can afford it. */
    private static void sixTenantsAndAFlatThatNobodyWants() {
        TenantCensus x = Houses.withFlats(5, 5, 5, 5, 5, 99);
        for (int tenant = 0; tenant < 6; tenant++) {
            x.addTenant(1, 0, 1, 50);
        }
        Check.is("five get a flat", 5, x::settle);
        Check.yes("nobody can afford the sixth", x.isStable());
        Check.is("stablePlans", 1, x::stablePlans);
        Check.fails("plannedFlat(5)", NO_ELEMENT, () -> x.plannedFlat(5));
        Check.fails("plannedFlatByPlans(5)", NO_ELEMENT, () -> x.plannedFlatByPlans(5));
        Check.yes("isConsistent", x.isConsistent());
        x.setRent(5, 50);
        Check.no("the last one wants it", x.isStable());
        x.removeTenant(5);
        Check.yes("nobody wants it", x.isStable());
    }

    /** "Letting tenants ask for flats": the last tenant's asking lets others ask, and the 25th asking gets a flat. */
    private static void askingOftenInARow() {
        TenantCensus x = house(new int[][] {
            {1, 27, 4, 3, 28}, {4, 26, 2, 5, 25}, {0, 25, 6, 1, 29}, {1, 30, 6, 2, 35}, {2, 29, 3, 0, 26},
            {5, 23, 1, 0, 24},
        });
        // The lightest come first: 5, 1, 4, 0, 2, 3; each takes the best of what is left and affordable.
        int[] due = {0, 2, 4, 3, 1, 5};
        for (int number = 0; number < 6; number++) {
            int tenant = number;
            Check.is("plannedFlat(" + tenant + ")", due[tenant], () -> x.plannedFlat(tenant));
            Check.is("plannedFlatByPlans(" + tenant + ")", due[tenant], () -> x.plannedFlatByPlans(tenant));
        }
        Check.yes("isConsistent", x.isConsistent());
    }
}
