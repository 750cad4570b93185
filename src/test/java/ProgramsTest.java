import java.util.List;
import java.util.NoSuchElementException;
import java.util.Set;
import java.util.function.Supplier;
import java.util.function.ToLongFunction;

/** The boundary cases of programs, undo and snapshots: the grammar under "Terms", and promises 46 to 52. */
public final class ProgramsTest {
    private static final Class<NoSuchElementException> NO_ELEMENT = NoSuchElementException.class;
    private static final Class<IllegalArgumentException> BAD_ARGUMENT = IllegalArgumentException.class;
    private static final Class<IllegalStateException> BAD_STATE = IllegalStateException.class;
    private static final Class<UnsupportedOperationException> UNSUPPORTED = UnsupportedOperationException.class;

    private ProgramsTest() {
    }

    public static void main(String[] args) {
        everyPrefix();
        everyWrongCharacter();
        digitsAndTheirNeighbours();
        oneDigitTwoDigitsThreeDigits();
        aMonthWithoutANumber();
        commandsBetweenSemicolons();
        commandsOutOfRange();
        commandsInTheLastPlaceOfTheirRange();
        commandsCorrespond();
        p46SixtyCharacters();
        p46AnyCharacter();
        p47EmptyAfterwardsInEveryCase();
        p47AllOrNone();
        p47FromOneCommandToTen();
        p48TheLatestText();
        p49TheLatestCommand();
        p50TheEightLatest();
        p50EveryKindOfChange();
        p50And52WhatWasBefore();
        p50RoundTheRing();
        p50WhatStays();
        p51InPlaceOfTheOneBefore();
        p52StaysSaved();
        p52NoChangeCanBeUndone();
        p52WhatStays();
        Check.end("ProgramsTest");
    }

    // ---- the grammar

    /** "Or the length of the text if the text is a proper prefix of a program." */
    private static void everyPrefix() {
        prefixes("flat 5=12", Set.of(8, 9));
        prefixes("tenant 12@3+40/99", Set.of(16, 17));
        prefixes("in 12>3", Set.of(7));
        prefixes("out 12", Set.of(5, 6));
        prefixes("rent 5=12", Set.of(8, 9));
        prefixes("gift 12+34", Set.of(9, 10));
        prefixes("settle", Set.of(6));
        prefixes("month 12", Set.of(5, 7, 8));
    }

    private static void prefixes(String text, Set<Integer> programs) {
        for (String before : new String[] {"", "settle;", "month 9;gift 3+30;"}) {
            for (int length = 0; length <= text.length(); length++) {
                String prefix = before + text.substring(0, length);
                if (programs.contains(length)) {
                    program(prefix);
                } else {
                    wrong(prefix, prefix.length());
                }
                wrong(prefix + "!", prefix.length());
            }
        }
    }

    /** A text of the grammar, whether its commands fail or not. */
    private static void program(String text) {
        TenantCensus x = new TenantCensus();
        Check.outcome(() -> Calls.run(x, text));
        Check.fails("'" + text + "' is a program", NO_ELEMENT, x::errorPosition);
        Check.is("its buffer afterwards", 1, () -> x.type('s'));
    }

    private static void wrong(String text, int position) {
        TenantCensus x = new TenantCensus();
        Check.fails("run of '" + text + "'", BAD_ARGUMENT, () -> Calls.run(x, text));
        Check.is("error position of '" + text + "'", position, x::errorPosition);
        Check.fails("failed command of '" + text + "'", NO_ELEMENT, x::failedCommand);
        Check.is("buffer after '" + text + "'", 1, () -> x.type('s'));
    }

    /** "The index of the first character at which no program can continue." */
    private static void everyWrongCharacter() {
        String[] texts = {
            "flat 5=12", "tenant 12@3+40/99", "in 12>3", "out 12", "rent 5=12", "gift 12+34", "settle", "month 12",
        };
        for (String text : texts) {
            for (int index = 0; index < text.length(); index++) {
                for (char sign : new char[] {'!', 'S', 'A', '\0', '\u00e9', '\u0665', '\uffff'}) {
                    wrong(text.substring(0, index) + sign + text.substring(index + 1), index);
                    wrong("settle;" + text.substring(0, index) + sign + text.substring(index + 1), index + 7);
                }
            }
        }
        wrong(" settle", 0);
        wrong("settle ", 6);
        wrong("Settle", 0);
        wrong("SETTLE", 0);
        wrong("flat  1=1", 5);
        wrong("flat1=1", 4);
        wrong("flat 1 =1", 6);
        wrong("flat 1= 1", 7);
        wrong("flat 1>1", 6);
        wrong("rent 1+1", 6);
        wrong("gift 1=1", 6);
        wrong("in 1=1", 4);
        wrong("tenant 1+1@1/1", 8);
        wrong("tenant 1@1/1+1", 10);
        wrong("tenant 1@1+1@1", 12);
        wrong("outt 1", 3);
        wrong("mont 1", 4);
        wrong("months", 5);
        wrong("settles", 6);
        wrong("is", 1);
    }

    /** "digit": '0' and '9' are digits, the characters beside them are none. */
    private static void digitsAndTheirNeighbours() {
        String[] forms = {
            "flat ?=1", "flat 1=?", "tenant ?@1+1/1", "tenant 1@?+1/1", "tenant 1@1+?/1", "tenant 1@1+1/?", "in ?>1",
            "in 1>?", "out ?", "rent ?=1", "rent 1=?", "gift ?+1", "gift 1+?", "month ?",
        };
        for (String form : forms) {
            int index = form.indexOf('?');
            program(form.replace('?', '0'));
            program(form.replace('?', '9'));
            wrong(form.replace('?', '/'), index);
            wrong(form.replace('?', ':'), index);
            wrong(form.replace('?', '-'), index);
            wrong(form.replace('?', '+'), index);
            wrong(form.replace('?', '\uff11'), index);
        }
    }

    /** "number = digit [ digit ]"; a flat and a wished floor are one digit. */
    private static void oneDigitTwoDigitsThreeDigits() {
        String[] numbers = {
            "flat 1=?", "tenant ?@1+1/1", "tenant 1@1+?/1", "tenant 1@1+1/?", "in ?>1", "out ?", "rent 1=?", "gift ?+1",
            "gift 1+?", "month ?",
        };
        for (String form : numbers) {
            int index = form.indexOf('?');
            for (String number : new String[] {"0", "9", "00", "09", "90", "99"}) {
                program(form.replace("?", number));
            }
            wrong(form.replace("?", "100"), index + 2);
            wrong(form.replace("?", "000"), index + 2);
            wrong(form.replace("?", ""), index);
        }
        String[] digits = {"flat ?=1", "tenant 1@?+1/1", "in 1>?", "rent ?=1"};
        for (String form : digits) {
            int index = form.indexOf('?');
            wrong(form.replace("?", "10"), index + 1);
            wrong(form.replace("?", "00"), index + 1);
            wrong(form.replace("?", ""), index);
        }
    }

    /** "Where 'month' without a number means one month." */
    private static void aMonthWithoutANumber() {
        TenantCensus x = new TenantCensus();
        String[] texts = {"month", "month 1", "month 01", "month;month", "month 24", "month 2;month;month 3"};
        int[] months = {1, 1, 1, 2, 24, 6};
        int due = 0;
        for (int index = 0; index < texts.length; index++) {
            Calls.run(x, texts[index]);
            due += months[index];
            Check.is(texts[index], due, x::month);
        }
        wrong("month ", 6);
        wrong("month ;month", 6);
    }

    /** "program = command { ";" command }": at least one, and one between two semicolons. */
    private static void commandsBetweenSemicolons() {
        wrong("", 0);
        wrong(";", 0);
        wrong(";settle", 0);
        wrong("settle;", 7);
        wrong("settle;;settle", 7);
        wrong("settle; settle", 7);
        wrong("settle ;settle", 6);
        wrong("settle,settle", 6);
        wrong("settlesettle", 6);
        wrong("month 1month", 7);
        wrong("out 12out 12", 6);
        program("settle;settle");
    }

    /** "A command fails, that is, if the method for it throws an exception": beyond each bound. */
    private static void commandsOutOfRange() {
        // Tenant 0 lives in flat 0, of rent 10, tenant 1 in none; flat 1, of rent 51, is vacant and too dear.
        String[] texts = {
            "flat 6=1", "flat 9=1", "flat 0=0", "flat 0=00",
            "tenant 0@0+1/0", "tenant 51@0+1/0", "tenant 1@6+1/0", "tenant 1@0+0/0", "tenant 1@0+41/0",
            "in 2>1", "in 99>1", "in 1>2", "in 1>9", "in 0>1", "in 1>0", "in 1>1",
            "out 1", "out 2", "out 99",
            "rent 2=1", "rent 9=1", "rent 0=0", "rent 0=00",
            "gift 2+1", "gift 99+1", "gift 0+0", "gift 0+00",
            "month 0", "month 00", "month 25", "month 99",
        };
        for (String text : texts) {
            fails(text, 0);
            fails("settle;rent 1=51;" + text, 2);
            fails(text + ";settle", 0);
        }
    }

    private static TenantCensus twoAndTwo() {
        TenantCensus x = Houses.withFlats(10, 51);
        x.addTenant(1, 0, 1, 50);
        x.addTenant(2, 0, 1, 50);
        x.moveIn(0, 0);
        return x;
    }

    private static void fails(String text, int command) {
        TenantCensus x = twoAndTwo();
        Check.fails("run of '" + text + "'", UNSUPPORTED, () -> Calls.run(x, text));
        Check.is("failed command of '" + text + "'", command, x::failedCommand);
        Check.fails("error position of '" + text + "'", NO_ELEMENT, x::errorPosition);
        Check.is("buffer after '" + text + "'", 1, () -> x.type('s'));
        Twins.runsOnly("'" + text + "'", ProgramsTest::twoAndTwo, y -> Calls.run(y, text));
    }

    /** The same commands with the last values that are allowed. */
    private static void commandsInTheLastPlaceOfTheirRange() {
        TenantCensus x = twoAndTwo();
        Check.is("flats", 3, () -> Calls.run(x, "flat 0=1;flat 5=99;flat 0=01"));
        Check.is("floorOf(2)", 0, () -> x.floorOf(2));
        Check.is("rentOf(2)", 1, () -> x.rentOf(2));
        Check.is("floorOf(3)", 5, () -> x.floorOf(3));
        Check.is("rentOf(3)", 99, () -> x.rentOf(3));
        Check.is("tenants", 2, () -> Calls.run(x, "tenant 1@0+1/0;tenant 50@5+40/99"));
        Check.is("weightOf(2)", 1, () -> x.weightOf(2));
        Check.is("weightOf(3)", 50, () -> x.weightOf(3));
        Check.is("purseOf(2)", 0, () -> x.purseOf(2));
        Check.is("purseOf(3)", 99, () -> x.purseOf(3));
        Check.is("wish 0", 1, () -> x.burden(2, 2));
        Check.is("wish 5", 99, () -> x.burden(3, 3));
        Check.is("rents", 2, () -> Calls.run(x, "rent 1=50;rent 4=99"));
        Check.is("rentOf(4)", 99, () -> x.rentOf(4));
        Check.is("just affordable", 1, () -> Calls.run(x, "in 1>1"));
        Check.is("flatOf(1)", 1, () -> x.flatOf(1));
        Check.is("gifts", 2, () -> Calls.run(x, "gift 2+1;gift 3+99"));
        Check.is("purseOf(2)", 1, () -> x.purseOf(2));
        Check.is("purseOf(3)", 198, () -> x.purseOf(3));
        Check.is("out", 1, () -> Calls.run(x, "out 1"));
        Check.is("months", 2, () -> Calls.run(x, "month 1;month 24"));
        Check.is("month", 25, x::month);
        Check.is("the sixth flat", 1, () -> Calls.run(x, "flat 3=3"));
        Check.fails("a seventh flat", UNSUPPORTED, () -> Calls.run(x, "flat 3=3"));
        Check.is("six tenants", 2, () -> Calls.run(x, "tenant 1@0+1/0;tenant 1@0+1/0"));
        Check.fails("a seventh tenant", UNSUPPORTED, () -> Calls.run(x, "tenant 1@0+1/0"));
        Check.is("the recorded command", 0, x::failedCommand);
        Check.is("flats", 6, x::flats);
        Check.is("tenants", 6, x::tenants);
        theTenantsUpTo99();
    }

    /** A number names the tenants up to 99, and no later one. */
    private static void theTenantsUpTo99() {
        TenantCensus x = Houses.withFlats(5);
        for (int tenant = 0; tenant < 99; tenant++) {
            x.addTenant(1, 0, 1, 5);
            x.removeTenant(tenant);
        }
        x.addTenant(1, 0, 1, 5);
        x.addTenant(1, 0, 1, 5);
        Check.is("99", 3, () -> Calls.run(x, "in 99>0;gift 99+9;out 99"));
        Check.is("purseOf(99)", 14, () -> x.purseOf(99));
        Check.is("100 has moved in", 100, () -> x.tenantIn(0));
        Check.fails("100", BAD_ARGUMENT, () -> Calls.run(x, "out 100"));
        Check.is("error position", 6, x::errorPosition);
    }

    /** "The commands correspond to addFlat(floor, rent), .. settle() and pass(months)." */
    private static void commandsCorrespond() {
        corresponds("flat 4=7", x -> x.addFlat(4, 7));
        corresponds("tenant 3@4+5/6", x -> x.addTenant(3, 4, 5, 6));
        corresponds("in 1>2", x -> x.moveIn(1, 2));
        corresponds("out 0", x -> x.moveOut(0));
        corresponds("rent 2=3", x -> x.setRent(2, 3));
        corresponds("gift 1+2", x -> x.give(1, 2));
        corresponds("settle", TenantCensus::settle);
        corresponds("month", x -> x.pass(1));
        corresponds("month 7", x -> x.pass(7));
    }

    private static void corresponds(String command, ToLongFunction<TenantCensus> call) {
        Twins.sameHouse("'" + command + "' and undo",
            () -> {
                TenantCensus x = threeAndTwo();
                call.applyAsLong(x);
                return x;
            },
            x -> {
                x.undo();
                return Calls.run(x, command);
            });
    }

    /** Tenant 0 lives in flat 0; flats 1 and 2 are vacant, and tenant 1, who lives in none, is preferred. */
    private static TenantCensus threeAndTwo() {
        TenantCensus x = Houses.withFlats(10, 11, 12);
        x.addTenant(2, 0, 1, 50);
        x.addTenant(1, 2, 3, 50);
        x.moveIn(0, 0);
        return x;
    }

    // ---- type and run

    /** "If the buffer contains 60 characters." */
    private static void p46SixtyCharacters() {
        String text = "month 24;month 24;month 24;month 24;month 24;month 24;settle";
        TenantCensus x = new TenantCensus();
        for (int index = 0; index < 60; index++) {
            char sign = text.charAt(index);
            Check.is("type", index + 1, () -> x.type(sign));
        }
        Check.fails("the 61st", BAD_STATE, () -> x.type(';'));
        Check.fails("again", BAD_STATE, () -> x.type(';'));
        Check.is("all 60 are the program", 7, x::run);
        Check.is("month", 144, x::month);
        Check.is("empty again", 1, () -> x.type('s'));
        String prefix = "month;month;month;month;month;month;month;month;month;month;";
        wrong(prefix, 60);
        wrong(prefix.substring(0, 59) + "x", 59);
        wrong(prefix.substring(0, 54) + "settlx", 59);
        wrong(prefix.substring(0, 55) + "onth ", 60);
    }

    /** "Any character." */
    private static void p46AnyCharacter() {
        for (char sign : new char[] {'\0', ' ', '~', '\u007f', '\u00ff', '\u0100', '\ud800', '\uffff'}) {
            wrong(String.valueOf(sign), 0);
            wrong("settle" + sign, 6);
            wrong("month " + sign, 6);
        }
        // Characters whose lower bits are those of a letter or digit are others.
        wrong("\u0173ettle", 0);
        wrong("month \u0131", 6);
        wrong("month 1\u0131", 7);
        wrong("settle\u013bsettle", 6);
    }

    /** "The buffer is empty afterwards in every case." */
    private static void p47EmptyAfterwardsInEveryCase() {
        TenantCensus x = new TenantCensus();
        Check.fails("an empty one", BAD_ARGUMENT, x::run);
        Check.is("error position", 0, x::errorPosition);
        Check.is("type", 1, () -> x.type('s'));
        Check.fails("a prefix", BAD_ARGUMENT, x::run);
        Check.is("error position", 1, x::errorPosition);
        Check.fails("empty now", BAD_ARGUMENT, x::run);
        Check.is("error position", 0, x::errorPosition);
        Check.fails("a failing one", UNSUPPORTED, () -> Calls.run(x, "out 0"));
        Check.fails("empty now", BAD_ARGUMENT, x::run);
        Check.is("error position", 0, x::errorPosition);
        Check.is("a good one", 1, () -> Calls.run(x, "month"));
        Check.fails("empty now", BAD_ARGUMENT, x::run);
        Check.is("error position", 0, x::errorPosition);
        Check.is("month", 1, x::month);
    }

    /** "Executes the commands in order, either all of them or, if one of them fails, none." */
    private static void p47AllOrNone() {
        TenantCensus x = new TenantCensus();
        Check.is("each relies on the one before", 4, () -> Calls.run(x, "flat 1=9;tenant 1@1+5/9;in 0>0;month 2"));
        Check.is("purseOf(0)", 1, () -> x.purseOf(0));
        Check.fails("in the wrong order", UNSUPPORTED, () -> Calls.run(x, "in 1>1;flat 1=9;tenant 1@1+5/9"));
        Check.is("failedCommand", 0, x::failedCommand);
        Check.is("flats", 1, x::flats);
        Check.is("tenants", 1, x::tenants);
        Check.fails("the last one fails", UNSUPPORTED,
            () -> Calls.run(x, "out 0;flat 1=9;tenant 9@1+5/9;gift 0+5;month 9;in 1>2"));
        Check.is("failedCommand", 5, x::failedCommand);
        Check.is("flatOf(0)", 0, () -> x.flatOf(0));
        Check.is("month", 2, x::month);
        Check.is("received", 19, x::received);
        Check.is("the next number is not used", 1, () -> x.addTenant(1, 0, 1, 0));
        Check.fails("a text that is none fails before any command", BAD_ARGUMENT, () -> Calls.run(x, "out 7;out"));
        Check.is("failedCommand", 5, x::failedCommand);
        Check.is("errorPosition", 9, x::errorPosition);
    }

    /** "Returns the number of commands"; "the number of this command, counted from 0". */
    private static void p47FromOneCommandToTen() {
        StringBuilder months = new StringBuilder();
        int due = 0;
        TenantCensus x = new TenantCensus();
        for (int count = 1; count <= 10; count++) {
            months.append(count == 1 ? "month" : ";month");
            String text = months.toString();
            Check.is("commands", count, () -> Calls.run(x, text));
            due += count;
            Check.is("month", due, x::month);
        }
        for (int number = 0; number < 10; number++) {
            int command = number;
            TenantCensus y = new TenantCensus();
            y.pass(2);
            Check.fails("command " + command, UNSUPPORTED, () -> Calls.run(y, "month;".repeat(command) + "out 9"));
            Check.is("failedCommand", command, y::failedCommand);
            Check.is("month", 2, y::month);
        }
    }

    /** "The recorded error position of the latest text that was not a program." */
    private static void p48TheLatestText() {
        TenantCensus x = new TenantCensus();
        Check.fails("no such text", NO_ELEMENT, x::errorPosition);
        Calls.run(x, "settle");
        Check.fails("a program", NO_ELEMENT, x::errorPosition);
        Check.outcome(() -> Calls.run(x, "out 0"));
        Check.fails("a program that fails", NO_ELEMENT, x::errorPosition);
        Check.outcome(() -> Calls.run(x, "settle;s"));
        Check.is("the first one", 8, x::errorPosition);
        Calls.run(x, "settle");
        Check.outcome(() -> Calls.run(x, "out 0"));
        Check.is("it stays", 8, x::errorPosition);
        Check.outcome(x::run);
        Check.is("the empty text", 0, x::errorPosition);
    }

    /** "The recorded number of the latest command that failed in a program." */
    private static void p49TheLatestCommand() {
        TenantCensus x = new TenantCensus();
        Check.fails("no command", NO_ELEMENT, x::failedCommand);
        Calls.run(x, "settle");
        Check.outcome(() -> Calls.run(x, "out 0;"));
        Check.fails("a text that is no program", NO_ELEMENT, x::failedCommand);
        Check.outcome(() -> Calls.run(x, "settle;out 0"));
        Check.is("the first one", 1, x::failedCommand);
        Check.outcome(() -> Calls.run(x, "settle;settle;s"));
        Calls.run(x, "settle;settle;settle");
        Check.is("it stays", 1, x::failedCommand);
        Check.outcome(() -> Calls.run(x, "out 0"));
        Check.is("the latest", 0, x::failedCommand);
        Check.outcome(() -> x.moveOut(0));
        Check.outcome(() -> x.pass(0));
        Check.is("calls are no commands", 0, x::failedCommand);
    }

    // ---- undo and snapshots

    /** "The 8 latest changes can be undone." */
    private static void p50TheEightLatest() {
        for (int number = 0; number <= 20; number++) {
            int changes = number;
            TenantCensus x = new TenantCensus();
            for (int month = 0; month < changes; month++) {
                x.pass(1);
            }
            int left = Math.min(changes, 8);
            for (int done = 1; done <= left; done++) {
                int undone = done;
                Check.is("undo " + done + " of " + changes, left - undone, x::undo);
                Check.is("month", changes - undone, x::month);
            }
            Check.fails("no more of " + changes, BAD_STATE, x::undo);
            Check.is("month", changes - left, x::month);
        }
    }

    /** "A change is a successful call of addFlat, .. pass or run." */
    private static void p50EveryKindOfChange() {
        TenantCensus x = new TenantCensus();
        x.addFlat(0, 10);
        Check.is("addFlat", 0, x::undo);
        Check.is("flats", 0, x::flats);
        x.addTenant(1, 0, 1, 50);
        Check.is("addTenant", 0, x::undo);
        Check.is("tenants", 0, x::tenants);
        Calls.run(x, "flat 0=10;tenant 1@0+1/50;tenant 2@0+1/50");
        Check.is("run is one change", 0, x::undo);
        Check.is("flats", 0, x::flats);
        Check.is("tenants", 0, x::tenants);
        Calls.run(x, "flat 0=10;tenant 1@0+1/50;tenant 2@0+1/50");
        x.removeTenant(0);
        Check.is("removeTenant", 1, x::undo);
        Check.yes("isPresent(0)", x.isPresent(0));
        x.moveIn(1, 0);
        Check.is("moveIn", 1, x::undo);
        Check.is("vacantFlats", 1, x::vacantFlats);
        x.moveIn(1, 0);
        x.moveOut(1);
        Check.is("moveOut, with its chain", 2, x::undo);
        Check.is("tenantIn(0)", 1, () -> x.tenantIn(0));
        x.setRent(0, 11);
        Check.is("setRent", 2, x::undo);
        Check.is("rentOf(0)", 10, () -> x.rentOf(0));
        x.setRent(0, 10);
        Check.is("the same rent is a change", 2, x::undo);
        x.give(0, 9);
        Check.is("give", 2, x::undo);
        Check.is("purseOf(0)", 50, () -> x.purseOf(0));
        x.settle();
        Check.is("settle", 2, x::undo);
        Check.is("tenantIn(0)", 1, () -> x.tenantIn(0));
        x.pass(1);
        Check.is("pass", 2, x::undo);
        Check.is("month", 0, x::month);
        Check.is("before moveIn", 1, x::undo);
        Check.is("before run", 0, x::undo);
        Check.fails("nothing is left", BAD_STATE, x::undo);
        Check.is("settle that moves nobody", 0, x::settle);
        Check.is("is a change", 0, x::undo);
        Calls.run(x, "settle");
        Check.is("so is a program that changes nothing", 0, x::undo);
    }

    /** "Undoes the latest change", "Restores the saved state": after every kind of change, all is as it was. */
    private static void p50And52WhatWasBefore() {
        List<ToLongFunction<TenantCensus>> changes = List.of(
            x -> x.addFlat(1, 1), x -> x.addTenant(7, 1, 2, 3), x -> x.removeTenant(0), x -> x.removeTenant(3),
            x -> x.moveIn(1, 2), x -> x.moveOut(0), x -> x.moveOut(1), x -> x.moveOut(2), x -> x.setRent(1, 77),
            x -> x.give(1, 50), TenantCensus::settle, x -> x.pass(1), x -> x.pass(24),
            x -> Calls.run(x, "month;rent 1=1;gift 1+2;settle;month 3"));
        List<Supplier<TenantCensus>> makers = List.of(
            () -> emptied(Houses.lively()), () -> emptied(Houses.full()), ProgramsTest::threeAndTwo,
            ProgramsTest::goingWithANotice);
        for (ToLongFunction<TenantCensus> change : changes) {
            int made = 0;
            for (Supplier<TenantCensus> maker : makers) {
                made += isMade(maker.get(), change) ? 1 : 0;
                Twins.sameHouse("a change and undo", maker, x -> isMade(x, change) ? x.undo() : 0);
                Twins.sameHouse("save, a change and restore", maker, x -> {
                    x.save();
                    isMade(x, change);
                    return x.restore();
                });
            }
            Check.yes("the change is made in one of the houses", made > 0);
        }
    }

    private static boolean isMade(TenantCensus x, ToLongFunction<TenantCensus> change) {
        return !Check.outcome(() -> change.applyAsLong(x)).startsWith("throws.");
    }

    private static TenantCensus emptied(TenantCensus x) {
        Check.outcome(x::run);
        return x;
    }

    /** Tenant 0, who lives in no flat, has a notice; the slots of the others move when 0 goes away. */
    private static TenantCensus goingWithANotice() {
        TenantCensus x = Houses.withFlats(5);
        x.addTenant(9, 3, 7, 5);
        x.moveIn(0, 0);
        x.setRent(0, 99);
        x.pass(1);
        x.settle();
        x.addTenant(4, 2, 3, 20);
        x.addTenant(6, 5, 11, 60);
        x.setRent(0, 50);
        x.moveIn(2, 0);
        return x;
    }

    /** "Undoes the latest change that was not undone", wherever the oldest one of the eight stands. */
    private static void p50RoundTheRing() {
        for (int before = 0; before < 20; before++) {
            TenantCensus x = new TenantCensus();
            for (int month = 0; month < before; month++) {
                x.pass(1);
            }
            x.setRent(x.addFlat(0, 1), 2);
            x.undo();
            x.setRent(0, 3);
            x.undo();
            x.undo();
            Check.is("flats", 0, x::flats);
            undoAll(x, Math.min(before, 6));
        }
    }

    private static void undoAll(TenantCensus x, int changes) {
        int month = x.month();
        for (int left = changes - 1; left >= 0; left--) {
            Check.is("undo of " + changes, left, x::undo);
        }
        Check.fails("no more of " + changes, BAD_STATE, x::undo);
        Check.is("month", month - changes, x::month);
    }

    /** "Everything except the program buffer, the error position, the failed command and the output line." */
    private static void p50WhatStays() {
        TenantCensus x = Houses.withFlats(7);
        Check.outcome(() -> Calls.run(x, "settle;out 0"));
        Check.outcome(() -> Calls.run(x, "set"));
        x.writeFloor(0);
        Calls.type(x, "mont");
        Check.is("undo", 0, x::undo);
        Check.is("flats", 0, x::flats);
        Check.same("the line", Calls.line(x), "0~0 0=7");
        Check.is("the error position", 3, x::errorPosition);
        Check.is("the failed command", 1, x::failedCommand);
        Check.is("the buffer", 5, () -> x.type('h'));
        Check.is("its text", 1, x::run);
        Check.is("month", 1, x::month);
    }

    /** "Saves the state in place of the state that was saved before." */
    private static void p51InPlaceOfTheOneBefore() {
        TenantCensus x = new TenantCensus();
        for (int number = 0; number <= 6; number++) {
            int count = number;
            Check.is("save", count, x::save);
            Check.is("restore", count, x::restore);
            Check.is("tenants", count, x::tenants);
            if (count < 6) {
                x.addTenant(1, 0, 1, 0);
            }
        }
        x.removeTenant(5);
        Check.is("restore", 6, x::restore);
        x.removeTenant(5);
        Check.is("save in place of it", 5, x::save);
        x.addTenant(1, 0, 1, 0);
        Check.is("restore the latest", 5, x::restore);
        Check.no("isPresent(6)", x.isPresent(6));
        x.save();
        Check.fails("saving is no change", BAD_STATE, x::undo);
    }

    /** "Restores the saved state, which stays saved." */
    private static void p52StaysSaved() {
        TenantCensus x = Houses.withFlats(3);
        x.addTenant(1, 0, 1, 9);
        x.save();
        for (int round = 0; round < 3; round++) {
            x.moveIn(0, 0);
            x.pass(3);
            x.addFlat(1, 1);
            x.setRent(0, 4);
            Check.is("restore", 1, x::restore);
            Check.is("flats", 1, x::flats);
            Check.is("vacantFlats", 1, x::vacantFlats);
            Check.is("rentOf(0)", 3, () -> x.rentOf(0));
            Check.is("purseOf(0)", 9, () -> x.purseOf(0));
            Check.is("month", 0, x::month);
        }
    }

    /** "Afterwards no change can be undone." */
    private static void p52NoChangeCanBeUndone() {
        TenantCensus x = new TenantCensus();
        x.save();
        for (int month = 0; month < 9; month++) {
            x.pass(1);
        }
        x.restore();
        Check.fails("none", BAD_STATE, x::undo);
        for (int month = 0; month < 9; month++) {
            x.pass(2);
        }
        for (int left = 7; left >= 0; left--) {
            Check.is("those after it", left, x::undo);
        }
        Check.is("month", 2, x::month);
        Check.fails("no more", BAD_STATE, x::undo);
        x.save();
        x.pass(1);
        x.undo();
        Check.is("undo keeps what is saved", 0, x::restore);
        Check.is("month", 2, x::month);
    }

    /** "Everything except the program buffer, the error position, the failed command and the output line." */
    private static void p52WhatStays() {
        TenantCensus x = new TenantCensus();
        x.save();
        x.addFlat(3, 8);
        Check.outcome(() -> Calls.run(x, "settle;settle;out 0"));
        Check.outcome(() -> Calls.run(x, "se"));
        x.writeFloor(3);
        Calls.type(x, "settl");
        x.restore();
        Check.is("flats", 0, x::flats);
        Check.same("the line", Calls.line(x), "3~0 0=8");
        Check.is("the error position", 2, x::errorPosition);
        Check.is("the failed command", 2, x::failedCommand);
        Check.is("the buffer", 6, () -> x.type('e'));
        Check.is("its text", 1, x::run);
        Check.is("one change", 0, x::undo);
    }
}
