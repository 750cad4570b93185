import java.lang.reflect.InvocationTargetException;
import java.lang.reflect.Method;
import java.util.Arrays;
import java.util.HashMap;
import java.util.Map;
import java.util.Random;

/** Long runs of calls, the same ones on the class and on the slow model, must answer the same. */
public final class ModelTest {
    private static final int RUNS = 120;
    private static final int CALLS = 512;
    private static final String[] CHANGES = {
        "addFlat", "addFlat", "addTenant", "addTenant", "addTenant", "removeTenant", "moveIn", "moveIn",
        "moveIn", "moveIn", "moveOut", "setRent", "setRent", "give", "settle", "pass", "undo", "save", "restore",
    };
    private static final String[] QUERIES = {
        "flats", "floorOf", "rentOf", "tenantIn", "vacantFlats", "tenants", "isPresent", "weightOf", "purseOf",
        "noticesOf", "flatOf", "burden", "flatByRank", "tenantByPurse", "creak", "censuses", "censusesBySets",
        "possibleFloors", "plannedFlat", "plannedFlatByPlans", "stablePlans", "isStable", "chainLength",
        "monthsUntilEviction", "month", "received", "receivedByParts", "paidRents", "evictions", "meanBurden",
        "occupancy", "isConsistent", "writeFloor", "writePlan", "charAt", "errorPosition", "failedCommand",
        "type", "run",
    };

    private final Random random;
    private final TenantCensus real = new TenantCensus();
    private final ModelHouse model = new ModelHouse();
    private final Map<String, Integer> outcomes;
    private final String run;
    private final boolean asksAlways;

    private ModelTest(int seed, Map<String, Integer> outcomes) {
        random = new Random(seed);
        this.outcomes = outcomes;
        run = "run " + seed + ": ";
        asksAlways = seed % 2 == 0;
    }

    public static void main(String[] args) {
        Map<String, Integer> outcomes = new HashMap<>();
        for (int seed = 0; seed < RUNS; seed++) {
            new ModelTest(seed, outcomes).go();
        }
        // A run that never meets an exception or an answer would test nothing of it.
        for (String name : new String[] {"moveIn", "moveOut", "run", "monthsUntilEviction", "chainLength", "undo"}) {
            Check.yes(name + " answered", outcomes.getOrDefault(name, 0) > 100);
            Check.yes(name + " failed", outcomes.getOrDefault(name + " failed", 0) > 30);
        }
        Check.end("ModelTest");
    }

    private void go() {
        int queries = 1 + random.nextInt(3);
        for (int call = 0; call < CALLS; call++) {
            int kind = random.nextInt(20);
            if (kind == 0) {
                typeAll(random.nextInt(4) == 0 ? spoilt(program()) : program());
                both("run");
            } else if (random.nextInt(1 + queries) == 0) {
                String name = CHANGES[random.nextInt(CHANGES.length)];
                // Seldom, or the house would never grow.
                if (!name.equals("restore") && !name.equals("undo") || random.nextInt(3) == 0) {
                    any(name);
                }
            } else {
                any(QUERIES[random.nextInt(QUERIES.length)]);
            }
        }
        readAll();
    }

    private void readAll() {
        for (int floor = 0; floor < 6; floor++) {
            both("writeFloor", floor);
            for (int index = -1; index < 70; index++) {
                both("charAt", index);
            }
        }
        both("writePlan");
        for (int index = -1; index < 70; index++) {
            both("charAt", index);
        }
        for (int left = 0; left < 9; left++) {
            both("undo");
            both("writePlan");
            both("received");
        }
    }

    private void any(String name) {
        switch (name) {
            case "addFlat" -> both(name, edge(0, 5), edge(1, random.nextBoolean() ? 30 : 99));
            case "addTenant" -> {
                int heaviest = random.nextBoolean() ? 3 : 50;
                both(name, edge(1, heaviest), edge(0, 5), edge(1, 40), edge(0, 99));
            }
            case "removeTenant", "moveOut", "isPresent", "weightOf", "purseOf", "noticesOf", "flatOf",
                "possibleFloors", "plannedFlat", "plannedFlatByPlans", "chainLength" -> both(name, tenant());
            case "moveIn", "burden", "flatByRank" -> both(name, tenant(), edge(0, 5));
            case "setRent" -> both(name, edge(0, 5), edge(1, random.nextBoolean() ? 40 : 99));
            case "give" -> both(name, tenant(), edge(1, 99));
            case "pass" -> both(name, random.nextInt(4) == 0 ? edge(1, 24) : edge(1, 2));
            case "floorOf", "rentOf", "tenantIn", "tenantByPurse", "creak", "writeFloor" -> both(name, edge(0, 5));
            case "charAt" -> both(name, edge(0, 20));
            case "type" -> both(name, (char) random.nextInt(random.nextBoolean() ? 65536 : 128));
            default -> both(name);
        }
    }

    /** A number within bounds, or seldom just outside. */
    private int edge(int least, int most) {
        int roll = random.nextInt(60);
        if (roll == 0) {
            return least - 1;
        }
        if (roll == 1) {
            return most + 1;
        }
        if (roll == 2) {
            return random.nextInt();
        }
        if (roll < 6) {
            return roll == 3 ? least : most;
        }
        return least + random.nextInt(most - least + 1);
    }

    private int tenant() {
        if (random.nextInt(20) > 0 && model.tenants() > 0) {
            return model.tenantByPurse(random.nextInt(model.tenants()));
        }
        return random.nextInt(20) - 2;
    }

    private int digit() {
        return random.nextInt(random.nextInt(8) == 0 ? 10 : 6);
    }

    private String program() {
        StringBuilder text = new StringBuilder(command());
        while (random.nextInt(3) > 0 && text.length() < 45) {
            text.append(';').append(command());
        }
        return text.toString();
    }

    private String command() {
        int who = Math.floorMod(tenant(), 100);
        return switch (random.nextInt(9)) {
            case 0 -> "flat " + digit() + "=" + random.nextInt(100);
            case 1 -> "tenant " + (1 + random.nextInt(52)) + "@" + digit() + "+" + (1 + random.nextInt(41)) + "/"
                + random.nextInt(100);
            case 2, 3 -> "in " + who + ">" + digit();
            case 4 -> "out " + who;
            case 5 -> "rent " + digit() + "=" + random.nextInt(60);
            case 6 -> "gift " + who + "+" + (random.nextBoolean() ? "0" : "") + random.nextInt(10);
            case 7 -> random.nextBoolean() ? "month" : "month " + random.nextInt(26);
            default -> "settle";
        };
    }

    private String spoilt(String text) {
        int at = random.nextInt(text.length());
        String signs = " ;=@+/>0123456789fltinosmrg\u00e9\u0660";
        char sign = signs.charAt(random.nextInt(signs.length()));
        return switch (random.nextInt(4)) {
            case 0 -> text.substring(0, at);
            case 1 -> text.substring(0, at) + text.substring(at + 1);
            case 2 -> text.substring(0, at) + sign + text.substring(at);
            default -> text.substring(0, at) + sign + text.substring(at + 1);
        };
    }

    private void typeAll(String text) {
        for (int index = 0; index < text.length(); index++) {
            both("type", text.charAt(index));
        }
    }

    private void both(String name, Object... arguments) {
        String due = answer(model, name, arguments);
        String got = answer(real, name, arguments);
        outcomes.merge(due.startsWith("throws.") ? name + " failed" : name, 1, Integer::sum);
        if (!got.equals(due)) {
            Check.same(run + name + Arrays.toString(arguments), got, due);
            Check.end("ModelTest");
        }
        Check.same(name, got, due);
        // Not in every run, so that a call can't lean on rows that this one has just filled.
        if (asksAlways && !real.isConsistent()) {
            Check.yes(run + "consistent after " + name + Arrays.toString(arguments), false);
        }
    }

    private static String answer(Object object, String name, Object[] arguments) {
        Class<?>[] types = new Class<?>[arguments.length];
        for (int index = 0; index < types.length; index++) {
            types[index] = arguments[index] instanceof Character ? char.class : int.class;
        }
        try {
            Method method = object.getClass().getMethod(name, types);
            return String.valueOf(method.invoke(object, arguments));
        } catch (InvocationTargetException e) {
            return "throws." + e.getCause().getClass().getName();
        } catch (ReflectiveOperationException e) {
            throw new IllegalStateException(e);
        }
    }
}
