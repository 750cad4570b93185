/** Houses that tests begin with. */
final class Houses {
    private Houses() {
    }

    /** Only flats, all of them on floor 0. */
    static TenantCensus withFlats(int... rents) {
        TenantCensus x = new TenantCensus();
        for (int rent : rents) {
            x.addFlat(0, rent);
        }
        return x;
    }

    /**
     * Six flats and six tenants, three of them in flats, a full program buffer, and more changes
     * than can be undone.
     */
    static TenantCensus full() {
        TenantCensus x = new TenantCensus();
        for (int index = 0; index < 6; index++) {
            x.addFlat(index, 10 + index);
            x.addTenant(6 - index, index, 1 + index, 20);
        }
        x.moveIn(0, 3);
        x.moveIn(1, 2);
        x.moveIn(2, 4);
        x.save();
        x.pass(1);
        Calls.type(x, "month 24;month 24;month 24;month 24;month 24;month 24;settle");
        return x;
    }

    /**
     * A house in which every part of the state says something. Flat 0 is where tenant 1 lives, flat
     * 1 the home of tenant 2, who has a notice, flat 2 is vacant; tenant 0 is gone, tenant 3 lives
     * in no flat and cannot afford flat 2. There was an eviction, a text that was no program, a
     * program that failed, and more changes since the saved state than can be undone; the line and
     * the program buffer are not empty.
     */
    static TenantCensus lively() {
        TenantCensus x = new TenantCensus();
        x.addFlat(0, 10);
        x.addFlat(2, 30);
        x.addFlat(5, 60);
        x.addTenant(9, 3, 7, 13);
        x.removeTenant(0);
        x.addTenant(5, 0, 12, 30);
        x.addTenant(3, 2, 4, 40);
        x.moveIn(2, 1);
        x.save();
        x.moveIn(1, 0);
        x.pass(1);
        x.pass(1);
        x.pass(1);
        x.addTenant(4, 5, 1, 52);
        x.give(2, 19);
        x.moveIn(2, 1);
        x.pass(1);
        x.setRent(1, 31);
        x.pass(1);
        x.setRent(2, 58);
        x.settle();
        x.undo();
        x.setRent(2, 61);
        outcomes(x, "month;settle;out 9");
        outcomes(x, "month;x");
        x.writeFloor(2);
        Calls.type(x, "mont");
        return x;
    }

    private static void outcomes(TenantCensus x, String program) {
        Check.outcome(() -> Calls.run(x, program));
    }
}
