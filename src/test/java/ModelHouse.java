import java.util.ArrayDeque;
import java.util.ArrayList;
import java.util.Comparator;
import java.util.Deque;
import java.util.HashSet;
import java.util.List;
import java.util.NoSuchElementException;
import java.util.Set;
import java.util.TreeSet;

/**
 * The document's words once more, in the slowest and plainest way, for comparison: all plans and
 * all spreads are tried without any shortcut, and each state is a copy.
 */
public final class ModelHouse {
    static final class Flat {
        int floor;
        int rent;
    }

    static final class Tenant {
        int number;
        int weight;
        int wish;
        int income;
        int purse;
        int notices;
        Integer flat;
    }

    static final class State {
        List<Flat> flats = new ArrayList<>();
        List<Tenant> tenants = new ArrayList<>();
        int next;
        int month;
        int evictions;
        long received;
        long gone;
        long paid;

        State copy() {
            State c = new State();
            for (Flat f : flats) {
                Flat g = new Flat();
                g.floor = f.floor;
                g.rent = f.rent;
                c.flats.add(g);
            }
            for (Tenant t : tenants) {
                Tenant u = new Tenant();
                u.number = t.number;
                u.weight = t.weight;
                u.wish = t.wish;
                u.income = t.income;
                u.purse = t.purse;
                u.notices = t.notices;
                u.flat = t.flat;
                c.tenants.add(u);
            }
            c.next = next;
            c.month = month;
            c.evictions = evictions;
            c.received = received;
            c.gone = gone;
            c.paid = paid;
            return c;
        }
    }

    private State s = new State();
    private State saved;
    private Deque<State> undoable = new ArrayDeque<>();
    private boolean inProgram;
    private String buffer = "";
    private String line = "";
    private Integer errorPosition;
    private Integer failedCommand;

    private void changing() {
        if (!inProgram) {
            undoable.addLast(s.copy());
            if (undoable.size() > 8) {
                undoable.removeFirst();
            }
        }
    }

    private Tenant tenant(int number) {
        for (Tenant t : s.tenants) {
            if (t.number == number) {
                return t;
            }
        }
        throw new NoSuchElementException();
    }

    private Flat flat(int flat) {
        if (flat < 0 || flat >= s.flats.size()) {
            throw new IndexOutOfBoundsException();
        }
        return s.flats.get(flat);
    }

    private Tenant in(int flat) {
        for (Tenant t : s.tenants) {
            if (t.flat != null && t.flat == flat) {
                return t;
            }
        }
        return null;
    }

    private static void range(int value, int least, int most) {
        if (value < least || value > most) {
            throw new IllegalArgumentException();
        }
    }

    private static void state(boolean fine) {
        if (!fine) {
            throw new IllegalStateException();
        }
    }

    private static void index(boolean fine) {
        if (!fine) {
            throw new IndexOutOfBoundsException();
        }
    }

    public int addFlat(int floor, int rent) {
        range(floor, 0, 5);
        range(rent, 1, 99);
        state(s.flats.size() < 6);
        changing();
        Flat f = new Flat();
        f.floor = floor;
        f.rent = rent;
        s.flats.add(f);
        return s.flats.size() - 1;
    }

    public int addTenant(int weight, int wish, int income, int purse) {
        range(weight, 1, 50);
        range(wish, 0, 5);
        range(income, 1, 40);
        range(purse, 0, 99);
        state(s.tenants.size() < 6);
        changing();
        Tenant t = new Tenant();
        t.number = s.next++;
        t.weight = weight;
        t.wish = wish;
        t.income = income;
        t.purse = purse;
        s.received += purse;
        s.tenants.add(t);
        return t.number;
    }

    public int removeTenant(int tenant) {
        state(tenant(tenant).flat == null);
        changing();
        Tenant t = tenant(tenant);
        s.gone += t.purse;
        s.tenants.remove(t);
        return s.tenants.size();
    }

    public int moveIn(int tenant, int flat) {
        Tenant t = tenant(tenant);
        Flat f = flat(flat);
        state(t.flat == null && in(flat) == null);
        if (f.rent > t.purse) {
            throw new UnsupportedOperationException();
        }
        changing();
        t.flat = flat;
        return burden(tenant, flat);
    }

    private int chain(int vacant, Tenant excluded) {
        int length = 0;
        while (true) {
            Tenant mover = null;
            for (Tenant t : s.tenants) {
                boolean candidate = t != excluded && affords(t, vacant)
                    && (t.flat == null || better(t, vacant, t.flat));
                if (candidate && (mover == null || flatPrefers(t, mover))) {
                    mover = t;
                }
            }
            if (mover == null) {
                return length;
            }
            length++;
            Integer left = mover.flat;
            mover.flat = vacant;
            if (left == null) {
                return length;
            }
            vacant = left;
        }
    }

    private boolean affords(Tenant t, int flat) {
        return s.flats.get(flat).rent <= t.purse;
    }

    /** Whether the tenant prefers one flat to another, or to none. */
    private boolean better(Tenant t, int flat, Integer other) {
        if (other == null) {
            return true;
        }
        int one = burden(t.number, flat);
        int two = burden(t.number, other);
        return one != two ? one < two : flat < other;
    }

    private static boolean flatPrefers(Tenant t, Tenant u) {
        return t.weight != u.weight ? t.weight < u.weight : t.number < u.number;
    }

    public int moveOut(int tenant) {
        state(tenant(tenant).flat != null);
        changing();
        Tenant t = tenant(tenant);
        int flat = t.flat;
        t.flat = null;
        t.notices = 0;
        return chain(flat, t);
    }

    public int setRent(int flat, int rent) {
        Flat f = flat(flat);
        range(rent, 1, 99);
        changing();
        int old = f.rent;
        f.rent = rent;
        return old;
    }

    public int give(int tenant, int coins) {
        Tenant t = tenant(tenant);
        range(coins, 1, 99);
        changing();
        t.purse += coins;
        s.received += coins;
        return t.purse;
    }

    public int settle() {
        changing();
        Integer[] best = bestPlan();
        int changed = 0;
        for (int i = 0; i < best.length; i++) {
            Tenant t = s.tenants.get(i);
            if (best[i] == null ? t.flat != null : !best[i].equals(t.flat)) {
                changed++;
            }
            t.flat = best[i];
        }
        return changed;
    }

    public int pass(int months) {
        range(months, 1, 24);
        changing();
        int before = s.evictions;
        for (int m = 0; m < months; m++) {
            oneMonth();
        }
        return s.evictions - before;
    }

    private void oneMonth() {
        s.month++;
        for (Tenant t : s.tenants) {
            t.purse += t.income;
            s.received += t.income;
            if (t.flat != null) {
                int rent = s.flats.get(t.flat).rent;
                if (t.purse >= rent) {
                    t.purse -= rent;
                    s.paid += rent;
                    t.notices = 0;
                } else if (++t.notices == 2) {
                    int flat = t.flat;
                    t.flat = null;
                    t.notices = 0;
                    s.evictions++;
                    chain(flat, t);
                }
            }
        }
    }

    public int flats() {
        return s.flats.size();
    }

    public int floorOf(int flat) {
        return flat(flat).floor;
    }

    public int rentOf(int flat) {
        return flat(flat).rent;
    }

    public int tenantIn(int flat) {
        flat(flat);
        if (in(flat) == null) {
            throw new NoSuchElementException();
        }
        return in(flat).number;
    }

    public int vacantFlats() {
        int count = 0;
        for (int f = 0; f < s.flats.size(); f++) {
            count += in(f) == null ? 1 : 0;
        }
        return count;
    }

    public int tenants() {
        return s.tenants.size();
    }

    public boolean isPresent(int tenant) {
        return s.tenants.stream().anyMatch(t -> t.number == tenant);
    }

    public int weightOf(int tenant) {
        return tenant(tenant).weight;
    }

    public int purseOf(int tenant) {
        return tenant(tenant).purse;
    }

    public int noticesOf(int tenant) {
        return tenant(tenant).notices;
    }

    public int flatOf(int tenant) {
        if (tenant(tenant).flat == null) {
            throw new NoSuchElementException();
        }
        return tenant(tenant).flat;
    }

    public int burden(int tenant, int flat) {
        Tenant t = tenant(tenant);
        Flat f = flat(flat);
        return f.rent + 3 * Math.abs(f.floor - t.wish);
    }

    public int flatByRank(int tenant, int rank) {
        Tenant t = tenant(tenant);
        List<Integer> order = new ArrayList<>();
        for (int f = 0; f < s.flats.size(); f++) {
            order.add(f);
        }
        order.sort((a, b) -> a.equals(b) ? 0 : better(t, a, b) ? -1 : 1);
        if (rank < 0 || rank >= order.size()) {
            throw new NoSuchElementException();
        }
        return order.get(rank);
    }

    public int tenantByPurse(int rank) {
        List<Tenant> order = new ArrayList<>(s.tenants);
        order.sort(Comparator.comparingInt((Tenant t) -> -t.purse).thenComparingInt(t -> t.number));
        if (rank < 0 || rank >= order.size()) {
            throw new NoSuchElementException();
        }
        return order.get(rank).number;
    }

    public int creak(int floor) {
        index(floor >= 0 && floor <= 5);
        int sum = 0;
        for (Tenant t : s.tenants) {
            sum += t.flat != null && s.flats.get(t.flat).floor == floor ? t.weight : 0;
        }
        return sum;
    }

    /** Every census as the floors of the housed tenants, found among all 6 to the power of their number. */
    private List<int[]> allCensuses(List<Tenant> housed) {
        List<int[]> found = new ArrayList<>();
        int all = 1;
        for (int i = 0; i < housed.size(); i++) {
            all *= 6;
        }
        for (int code = 0; code < all; code++) {
            int[] floors = new int[housed.size()];
            int[] sums = new int[6];
            int rest = code;
            for (int i = 0; i < floors.length; i++) {
                floors[i] = rest % 6;
                sums[rest % 6] += housed.get(i).weight;
                rest /= 6;
            }
            boolean fits = true;
            for (int f = 0; f < 6; f++) {
                fits &= sums[f] == creak(f);
            }
            if (fits) {
                found.add(floors);
            }
        }
        return found;
    }

    private List<Tenant> housed() {
        List<Tenant> housed = new ArrayList<>(s.tenants);
        housed.removeIf(t -> t.flat == null);
        return housed;
    }

    public int censuses() {
        return allCensuses(housed()).size();
    }

    public int censusesBySets() {
        return censuses();
    }

    public int possibleFloors(int tenant) {
        int at = housed().indexOf(tenant(tenant));
        Set<Integer> floors = new HashSet<>();
        if (at >= 0) {
            allCensuses(housed()).forEach(c -> floors.add(c[at]));
        }
        return floors.size();
    }

    private void allPlans(Integer[] plan, int slot, List<Integer[]> found) {
        if (slot == plan.length) {
            if (stable(plan)) {
                found.add(plan.clone());
            }
            return;
        }
        plan[slot] = null;
        allPlans(plan, slot + 1, found);
        for (int f = 0; f < s.flats.size(); f++) {
            boolean given = false;
            for (int i = 0; i < slot; i++) {
                given |= plan[i] != null && plan[i] == f;
            }
            if (!given && affords(s.tenants.get(slot), f)) {
                plan[slot] = f;
                allPlans(plan, slot + 1, found);
            }
        }
        plan[slot] = null;
    }

    private boolean stable(Integer[] plan) {
        for (int i = 0; i < plan.length; i++) {
            Tenant t = s.tenants.get(i);
            for (int f = 0; f < s.flats.size(); f++) {
                if (affords(t, f) && better(t, f, plan[i]) && (plan[i] == null || plan[i] != f)) {
                    Tenant holder = null;
                    for (int j = 0; j < plan.length; j++) {
                        if (plan[j] != null && plan[j] == f) {
                            holder = s.tenants.get(j);
                        }
                    }
                    if (holder == null || flatPrefers(t, holder)) {
                        return false;
                    }
                }
            }
        }
        return true;
    }

    private List<Integer[]> stable() {
        List<Integer[]> found = new ArrayList<>();
        allPlans(new Integer[s.tenants.size()], 0, found);
        return found;
    }

    private Integer[] bestPlan() {
        Integer[] best = new Integer[s.tenants.size()];
        for (Integer[] plan : stable()) {
            for (int i = 0; i < best.length; i++) {
                if (plan[i] != null && better(s.tenants.get(i), plan[i], best[i])) {
                    best[i] = plan[i];
                }
            }
        }
        return best;
    }

    public int plannedFlat(int tenant) {
        int slot = s.tenants.indexOf(tenant(tenant));
        Integer flat = bestPlan()[slot];
        if (flat == null) {
            throw new NoSuchElementException();
        }
        return flat;
    }

    public int plannedFlatByPlans(int tenant) {
        return plannedFlat(tenant);
    }

    public int stablePlans() {
        return stable().size();
    }

    public boolean isStable() {
        Integer[] plan = new Integer[s.tenants.size()];
        for (int i = 0; i < plan.length; i++) {
            Tenant t = s.tenants.get(i);
            plan[i] = t.flat;
            if (t.flat != null && !affords(t, t.flat)) {
                return false;
            }
        }
        return stable(plan);
    }

    public int chainLength(int tenant) {
        if (tenant(tenant).flat == null) {
            throw new NoSuchElementException();
        }
        State now = s;
        s = now.copy();
        Tenant t = tenant(tenant);
        int flat = t.flat;
        t.flat = null;
        int length = chain(flat, t);
        s = now;
        return length;
    }

    public int monthsUntilEviction() {
        State now = s;
        s = now.copy();
        int months = 0;
        while (months < 24 && s.evictions == now.evictions) {
            oneMonth();
            months++;
        }
        boolean happened = s.evictions > now.evictions;
        s = now;
        if (!happened) {
            throw new NoSuchElementException();
        }
        return months;
    }

    public int month() {
        return s.month;
    }

    public long received() {
        return s.received;
    }

    public long receivedByParts() {
        return s.received;
    }

    public int paidRents() {
        return (int) s.paid;
    }

    public int evictions() {
        return s.evictions;
    }

    public double meanBurden() {
        List<Tenant> housed = housed();
        if (housed.isEmpty()) {
            throw new ArithmeticException();
        }
        int sum = housed.stream().mapToInt(t -> burden(t.number, t.flat)).sum();
        return (double) sum / (double) housed.size();
    }

    public float occupancy() {
        if (s.flats.isEmpty()) {
            throw new ArithmeticException();
        }
        return (float) (s.flats.size() - vacantFlats()) / (float) s.flats.size();
    }

    public boolean isConsistent() {
        return true;
    }

    public int writeFloor(int floor) {
        String text = floor + "~" + creak(floor);
        for (int f = 0; f < s.flats.size(); f++) {
            if (s.flats.get(f).floor == floor) {
                text += " " + f + "=" + s.flats.get(f).rent + (in(f) == null ? "" : ":" + in(f).number);
            }
        }
        line = text;
        return line.length();
    }

    public int writePlan() {
        Integer[] best = bestPlan();
        List<String> words = new ArrayList<>();
        for (int i = 0; i < best.length; i++) {
            words.add(s.tenants.get(i).number + ">" + (best[i] == null ? "-" : best[i].toString()));
        }
        line = String.join(" ", words);
        return line.length();
    }

    public char charAt(int index) {
        index(index >= 0 && index < line.length());
        return line.charAt(index);
    }

    public int type(char character) {
        state(buffer.length() < 60);
        buffer += character;
        return buffer.length();
    }

    /** Every command there is, with all its digits made zeros. */
    private static Set<String> commandShapes() {
        Set<String> shapes = new TreeSet<>();
        for (String a : new String[] {"0", "00"}) {
            shapes.add("flat 0=" + a);
            shapes.add("out " + a);
            shapes.add("in " + a + ">0");
            shapes.add("rent 0=" + a);
            shapes.add("month " + a);
            for (String b : new String[] {"0", "00"}) {
                shapes.add("gift " + a + "+" + b);
                for (String c : new String[] {"0", "00"}) {
                    shapes.add("tenant " + a + "@0+" + b + "/" + c);
                }
            }
        }
        shapes.add("settle");
        shapes.add("month");
        return shapes;
    }

    private static final Set<String> SHAPES = commandShapes();

    private static boolean canBegin(String text) {
        for (String shape : SHAPES) {
            if (shape.startsWith(text)
                || text.startsWith(shape + ";") && canBegin(text.substring(shape.length() + 1))) {
                return true;
            }
        }
        return false;
    }

    private static boolean isProgram(String text) {
        for (String command : text.split(";", -1)) {
            if (!SHAPES.contains(command)) {
                return false;
            }
        }
        return true;
    }

    public int run() {
        String text = buffer;
        buffer = "";
        // Other signs for digits must not become digits here.
        String shape = text.replace('0', '1').replaceAll("[1-9]", "0");
        if (!isProgram(shape)) {
            int position = 0;
            while (position < text.length() && canBegin(shape.substring(0, position + 1))) {
                position++;
            }
            errorPosition = position;
            throw new IllegalArgumentException();
        }
        State before = s;
        s = before.copy();
        String[] commands = text.split(";");
        inProgram = true;
        int done = 0;
        try {
            for (String command : commands) {
                perform(command);
                done++;
            }
        } catch (RuntimeException e) {
            s = before;
            failedCommand = done;
            throw new UnsupportedOperationException();
        } finally {
            inProgram = false;
        }
        State after = s;
        s = before;
        changing();
        s = after;
        return commands.length;
    }

    private void perform(String command) {
        String[] words = command.split("[^0-9]+");
        int[] v = new int[5];
        int n = 0;
        for (String word : words) {
            if (!word.isEmpty()) {
                v[n++] = Integer.parseInt(word);
            }
        }
        switch (command.charAt(0)) {
            case 'f' -> addFlat(v[0], v[1]);
            case 't' -> addTenant(v[0], v[1], v[2], v[3]);
            case 'i' -> moveIn(v[0], v[1]);
            case 'o' -> moveOut(v[0]);
            case 'r' -> setRent(v[0], v[1]);
            case 'g' -> give(v[0], v[1]);
            case 's' -> settle();
            default -> pass(n == 0 ? 1 : v[0]);
        }
    }

    public int errorPosition() {
        if (errorPosition == null) {
            throw new NoSuchElementException();
        }
        return errorPosition;
    }

    public int failedCommand() {
        if (failedCommand == null) {
            throw new NoSuchElementException();
        }
        return failedCommand;
    }

    public int undo() {
        state(!undoable.isEmpty());
        s = undoable.removeLast();
        return undoable.size();
    }

    public int save() {
        saved = s.copy();
        return saved.tenants.size();
    }

    public int restore() {
        state(saved != null);
        s = saved.copy();
        undoable.clear();
        return s.tenants.size();
    }
}
