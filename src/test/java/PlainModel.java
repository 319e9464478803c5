import java.util.ArrayDeque;
import java.util.ArrayList;
import java.util.Comparator;
import java.util.Deque;
import java.util.List;

/**
 * The document once more, written for comparing: with the Java library, with things that point at
 * one another instead of tables, with nothing reused and no look ahead cut short.
 */
final class PlainModel {
    static final int NONE = -9;

    static final class Gate {
        int km;
        int period;
        int closed;
        int phase;

        boolean isClosed(int h) {
            return (h + phase) % period < closed;
        }
    }

    static final class Bay {
        int km;
        int places;
        List<Vehicle> in = new ArrayList<>();
    }

    static final class Depot {
        int km;
        int liters;
    }

    static final class Convoy {
        int km;
        int held;
        int waited;
        int stood;
        boolean ended;
        List<Vehicle> in = new ArrayList<>();
    }

    static final class Vehicle {
        int number;
        int speed;
        int use;
        int tank;
        int liters;
        int burnt;
    }

    static final class World {
        int length = 20;
        int hours;
        List<Gate> gates = new ArrayList<>();
        List<Bay> bays = new ArrayList<>();
        List<Depot> depots = new ArrayList<>();
        List<Convoy> convoys = new ArrayList<>();
        List<Vehicle> vehicles = new ArrayList<>();
        /** Told for each vehicle that is left: convoy, bay, vehicle. */
        List<int[]> left = new ArrayList<>();

        World copy() {
            World w = new World();
            w.length = length;
            w.hours = hours;
            for (Vehicle v : vehicles) {
                Vehicle n = w.vehicle(v.speed, v.use, v.tank, v.liters);
                n.burnt = v.burnt;
            }
            for (Gate g : gates) {
                w.gate(g.km, g.period, g.closed, g.phase);
            }
            for (Depot d : depots) {
                w.depot(d.km, d.liters);
            }
            for (Bay b : bays) {
                Bay n = w.bay(b.km, b.places);
                b.in.forEach(v -> n.in.add(w.vehicles.get(v.number)));
            }
            for (Convoy c : convoys) {
                Convoy n = new Convoy();
                n.km = c.km;
                n.held = c.held;
                n.waited = c.waited;
                n.stood = c.stood;
                n.ended = c.ended;
                c.in.forEach(v -> n.in.add(w.vehicles.get(v.number)));
                w.convoys.add(n);
            }
            return w;
        }

        Gate gate(int km, int period, int closed, int phase) {
            Gate g = new Gate();
            g.km = km;
            g.period = period;
            g.closed = closed;
            g.phase = phase;
            gates.add(g);
            return g;
        }

        Bay bay(int km, int places) {
            Bay b = new Bay();
            b.km = km;
            b.places = places;
            bays.add(b);
            return b;
        }

        Depot depot(int km, int liters) {
            Depot d = new Depot();
            d.km = km;
            d.liters = liters;
            depots.add(d);
            return d;
        }

        Vehicle vehicle(int speed, int use, int tank, int liters) {
            Vehicle v = new Vehicle();
            v.number = vehicles.size();
            v.speed = speed;
            v.use = use;
            v.tank = tank;
            v.liters = liters;
            vehicles.add(v);
            return v;
        }

        int place(Vehicle v) {
            if (convoys.stream().anyMatch(c -> c.in.contains(v))) {
                return 0;
            }
            return bays.stream().anyMatch(b -> b.in.contains(v)) ? 1 : 2;
        }

        int host(Vehicle v) {
            for (int c = 0; c < convoys.size(); c++) {
                if (convoys.get(c).in.contains(v)) {
                    return c;
                }
            }
            for (int b = 0; b < bays.size(); b++) {
                if (bays.get(b).in.contains(v)) {
                    return b;
                }
            }
            return NONE;
        }

        int count(int place) {
            return (int) vehicles.stream().filter(v -> place(v) == place).count();
        }

        int burnt() {
            return vehicles.stream().mapToInt(v -> v.burnt).sum();
        }

        void pass(int many) {
            for (int i = 0; i < many; i++) {
                for (int c = 0; c < convoys.size(); c++) {
                    hour(c, convoys.get(c));
                }
                hours++;
            }
        }

        private void hour(int number, Convoy c) {
            if (c.in.isEmpty() || c.ended) {
                return;
            }
            if (c.held > 0) {
                c.held--;
                return;
            }
            for (Depot d : depots) {
                if (d.km == c.km) {
                    for (Vehicle v : c.in) {
                        while (v.liters < v.tank && d.liters > 0) {
                            v.liters++;
                            d.liters--;
                        }
                    }
                }
            }
            int s = c.in.stream().mapToInt(v -> v.speed).min().getAsInt();
            for (int i = 0; i < s; i++) {
                if (!step(number, c)) {
                    return;
                }
            }
        }

        private boolean step(int number, Convoy c) {
            for (Gate g : gates) {
                if (g.km == c.km + 1 && g.isClosed(hours)) {
                    c.waited++;
                    return false;
                }
            }
            for (Vehicle v : new ArrayList<>(c.in)) {
                for (Bay b : bays) {
                    if (b.km == c.km && v.liters < v.use && b.in.size() < b.places) {
                        b.in.add(v);
                        c.in.remove(v);
                        left.add(new int[] {number, bays.indexOf(b), v.number});
                    }
                }
            }
            if (c.in.isEmpty() || c.in.stream().anyMatch(v -> v.liters < v.use)) {
                c.stood++;
                return false;
            }
            c.km++;
            for (Vehicle v : c.in) {
                v.liters -= v.use;
                v.burnt += v.use;
            }
            if (c.km == length) {
                c.in.clear();
                c.ended = true;
                return false;
            }
            for (Bay b : bays) {
                if (b.km == c.km) {
                    help(c, b);
                }
            }
            return true;
        }

        private void help(Convoy c, Bay b) {
            boolean joined = false;
            while (!b.in.isEmpty() && c.in.size() < 8) {
                Vehicle poor = b.in.get(0);
                int most = c.in.stream().mapToInt(v -> v.liters).max().getAsInt();
                Vehicle rich = c.in.stream().filter(v -> v.liters == most).findFirst().get();
                int gift = Math.min(Math.min(rich.liters / 2, 10), poor.tank - poor.liters);
                rich.liters -= gift;
                poor.liters += gift;
                if (poor.liters < poor.use) {
                    break;
                }
                b.in.remove(0);
                c.in.add(poor);
                joined = true;
            }
            if (joined) {
                c.in.sort(Comparator.<Vehicle>comparingInt(v -> v.speed).thenComparingInt(v -> v.number));
            }
        }
    }

    private String text = "";
    private World now = new World();
    private final Deque<World> past = new ArrayDeque<>();
    private final World[] slots = new World[2];

    private static void index(boolean fine) {
        if (!fine) {
            throw new IndexOutOfBoundsException();
        }
    }

    private static void argument(boolean fine) {
        if (!fine) {
            throw new IllegalArgumentException();
        }
    }

    private static void state(boolean fine) {
        if (!fine) {
            throw new IllegalStateException();
        }
    }

    private static boolean in(int i, List<?> list) {
        return i >= 0 && i < list.size();
    }

    private void remember() {
        past.addLast(now.copy());
        if (past.size() > 14) {
            past.removeFirst();
        }
    }

    int append(int c) {
        argument(c >= 0 && c <= 255);
        state(text.length() < 140);
        text += (char) c;
        return text.length();
    }

    int clearText() {
        int before = text.length();
        text = "";
        return before;
    }

    /** Reads the text by lists of all numbers that may stand at a place. */
    private final class Reading {
        final World world = new World();
        int at;
        int error = NONE;

        void fail(int where) {
            if (error == NONE) {
                error = where;
            }
        }

        int number(String form, int least, int most) {
            for (int end = at + 1; error == NONE; end++) {
                if (end > text.length()) {
                    fail(text.length());
                    return 0;
                }
                String read = text.substring(at, end);
                boolean begins = false;
                for (int n = least; n <= most; n++) {
                    String written = String.format(form, n);
                    if (written.equals(read)) {
                        at = end;
                        return n;
                    }
                    begins = begins || written.startsWith(read);
                }
                if (!begins) {
                    fail(end - 1);
                }
            }
            return 0;
        }

        void read() {
            if (text.isEmpty() || text.charAt(0) != 'W') {
                fail(0);
                return;
            }
            at = 1;
            world.length = number("%02d", 10, 60);
            while (error == NONE && at < text.length()) {
                part(text.charAt(at++));
            }
        }

        void taken(boolean taken) {
            if (taken) {
                fail(at - 1);
            }
        }

        void part(char letter) {
            int l = world.length;
            Convoy last = world.convoys.isEmpty() ? null : world.convoys.get(world.convoys.size() - 1);
            if (letter == 'g' && world.gates.size() < 4) {
                int km = number("%02d", 1, l - 1);
                taken(world.gates.stream().anyMatch(g -> g.km == km));
                int period = number("%02d", 2, 24);
                int closed = number("%02d", 0, period - 1);
                world.gate(km, period, closed, number("%02d", 0, period - 1));
            } else if (letter == 'b' && world.bays.size() < 6) {
                int km = number("%02d", 1, l - 1);
                taken(world.bays.stream().anyMatch(b -> b.km == km));
                world.bay(km, number("%d", 1, 6));
            } else if (letter == 'd' && world.depots.size() < 4) {
                int km = number("%02d", 0, l);
                taken(world.depots.stream().anyMatch(d -> d.km == km));
                world.depot(km, number("%03d", 0, 999));
            } else if (letter == 'c' && world.convoys.size() < 4) {
                world.convoys.add(new Convoy());
            } else if (letter == 'v' && last != null && last.in.size() < 8 && world.vehicles.size() < 16) {
                int speed = number("%d", 1, 9);
                int use = number("%d", 1, 4);
                int tank = number("%d", 20, 99);
                last.in.add(world.vehicle(speed, use, tank, number("%02d", 0, tank)));
            } else {
                fail(at - 1);
            }
        }
    }

    int errorPosition() {
        Reading r = new Reading();
        r.read();
        return r.error;
    }

    int load() {
        Reading r = new Reading();
        r.read();
        state(r.error == NONE);
        now = r.world;
        past.clear();
        slots[0] = null;
        slots[1] = null;
        return now.vehicles.size();
    }

    int about(int what) {
        argument(what >= 0 && what <= 11);
        return new int[] {now.length, now.hours, now.gates.size(), now.bays.size(), now.depots.size(),
            now.convoys.size(), now.vehicles.size(), now.count(2), now.count(1),
            now.vehicles.stream().mapToInt(v -> v.liters).sum(),
            now.depots.stream().mapToInt(d -> d.liters).sum(), now.burnt()}[what];
    }

    int convoy(int c, int what) {
        index(in(c, now.convoys));
        argument(what >= 0 && what <= 7);
        Convoy x = now.convoys.get(c);
        return new int[] {x.km, x.in.size(), x.in.stream().mapToInt(v -> v.speed).min().orElse(0), x.held,
            x.waited, x.stood, x.in.stream().mapToInt(v -> v.liters).sum(), x.ended ? 1 : 0}[what];
    }

    int member(int c, int i) {
        index(in(c, now.convoys));
        argument(i >= 0);
        List<Vehicle> line = now.convoys.get(c).in;
        return i < line.size() ? line.get(i).number : NONE;
    }

    int vehicle(int v, int what) {
        index(in(v, now.vehicles));
        argument(what >= 0 && what <= 6);
        Vehicle x = now.vehicles.get(v);
        return new int[] {x.speed, x.use, x.tank, x.liters, now.place(x), now.host(x), x.burnt}[what];
    }

    int gate(int g, int what) {
        index(in(g, now.gates));
        argument(what >= 0 && what <= 5);
        Gate x = now.gates.get(g);
        int closedFor = 0;
        while (x.isClosed(now.hours + closedFor)) {
            closedFor++;
        }
        return new int[] {x.km, x.period, x.closed, x.phase, x.isClosed(now.hours) ? 1 : 0, closedFor}[what];
    }

    int bay(int b, int what) {
        index(in(b, now.bays));
        argument(what >= 0 && what <= 3);
        Bay x = now.bays.get(b);
        return new int[] {x.km, x.places, x.in.size(), x.in.isEmpty() ? NONE : x.in.get(0).number}[what];
    }

    int depot(int d, int what) {
        index(in(d, now.depots));
        argument(what == 0 || what == 1);
        return what == 0 ? now.depots.get(d).km : now.depots.get(d).liters;
    }

    int addGate(int km, int period, int closed, int phase) {
        argument(km >= 1 && km < now.length && period >= 2 && period <= 24);
        argument(closed >= 0 && closed < period && phase >= 0 && phase < period);
        state(now.gates.size() < 4 && now.gates.stream().noneMatch(g -> g.km == km));
        remember();
        now.gate(km, period, closed, phase);
        return now.gates.size() - 1;
    }

    int addBay(int km, int places) {
        argument(km >= 1 && km < now.length && places >= 1 && places <= 6);
        state(now.bays.size() < 6 && now.bays.stream().noneMatch(b -> b.km == km));
        remember();
        now.bay(km, places);
        return now.bays.size() - 1;
    }

    int addDepot(int km, int liters) {
        argument(km >= 0 && km <= now.length && liters >= 0 && liters <= 999);
        state(now.depots.size() < 4 && now.depots.stream().noneMatch(d -> d.km == km));
        remember();
        now.depot(km, liters);
        return now.depots.size() - 1;
    }

    int addConvoy() {
        state(now.convoys.size() < 4);
        remember();
        now.convoys.add(new Convoy());
        return now.convoys.size() - 1;
    }

    int addVehicle(int c, int speed, int use, int tank, int liters) {
        index(in(c, now.convoys));
        argument(speed >= 1 && speed <= 9 && use >= 1 && use <= 4);
        argument(tank >= 20 && tank <= 99 && liters >= 0 && liters <= tank);
        state(now.vehicles.size() < 16 && now.convoys.get(c).in.size() < 8 && !now.convoys.get(c).ended);
        remember();
        now.convoys.get(c).in.add(now.vehicle(speed, use, tank, liters));
        return now.vehicles.size() - 1;
    }

    int hold(int c, int hours) {
        index(in(c, now.convoys));
        argument(hours >= 0 && hours <= 23);
        remember();
        int before = now.convoys.get(c).held;
        now.convoys.get(c).held = hours;
        return before;
    }

    int supply(int d, int liters) {
        index(in(d, now.depots));
        argument(liters >= 1 && liters <= 500);
        state(now.depots.get(d).liters <= 999 - liters);
        remember();
        return now.depots.get(d).liters += liters;
    }

    int pass(int hours) {
        argument(hours >= 1 && hours <= 99);
        remember();
        int before = now.count(2);
        now.pass(hours);
        return now.count(2) - before;
    }

    int undo() {
        state(!past.isEmpty());
        now = past.removeLast();
        return past.size();
    }

    private static int arrives(World w, int c) {
        for (int h = 0; h <= 300; h++) {
            if (w.convoys.get(c).ended) {
                return h;
            }
            w.pass(1);
        }
        return NONE;
    }

    int arrives(int c) {
        index(in(c, now.convoys));
        return arrives(now.copy(), c);
    }

    int leaves(int c) {
        index(in(c, now.convoys));
        World w = now.copy();
        w.pass(300);
        for (int[] l : w.left) {
            if (l[0] == c) {
                return 100 * l[1] + l[2];
            }
        }
        return NONE;
    }

    int bestHold(int c) {
        index(in(c, now.convoys));
        int best = NONE;
        int fewest = Integer.MAX_VALUE;
        for (int hours = 0; hours <= 23 && !now.convoys.get(c).ended; hours++) {
            World w = now.copy();
            w.convoys.get(c).held = hours;
            int end = arrives(w, c);
            if (end != NONE && end - hours < fewest) {
                fewest = end - hours;
                best = hours;
            }
        }
        return now.convoys.get(c).ended ? 0 : best;
    }

    int lacks(int d) {
        index(in(d, now.depots));
        for (int more = 0; more <= 40; more++) {
            World w = now.copy();
            w.depots.get(d).liters += more;
            w.pass(300);
            if (w.count(2) == w.vehicles.size()) {
                return more;
            }
        }
        return NONE;
    }

    int runScript(int n, long script) {
        argument(n >= 1 && n <= 3 && script >= 0 && Long.toString(script).length() <= 5 * n);
        String digits = String.format("%0" + 5 * n + "d", script);
        PlainModel copy = new PlainModel();
        copy.now = now.copy();
        for (int i = 0; i < n; i++) {
            try {
                if (!copy.command(digits.substring(5 * i, 5 * i + 5))) {
                    return i;
                }
            } catch (RuntimeException e) {
                return i;
            }
        }
        return NONE;
    }

    private boolean command(String s) {
        int thing = s.charAt(1) - '0';
        int v = Integer.parseInt(s.substring(1, 3));
        int two = Integer.parseInt(s.substring(3));
        int three = Integer.parseInt(s.substring(2));
        if (s.matches("100..")) {
            return pass(two) >= 0;
        } else if (s.matches("2.0..")) {
            return hold(thing, two) >= 0;
        } else if (s.matches("3....")) {
            return supply(thing, three) >= 0;
        } else if (s.matches("4.0..")) {
            return convoy(thing, 0) >= two;
        } else if (s.matches("5....")) {
            return vehicle(v, 3) >= two;
        } else if (s.matches("6..0.")) {
            return vehicle(v, 4) == two;
        } else if (s.matches("7.00[01]")) {
            return gate(thing, 4) == two;
        } else if (s.matches("8.00.")) {
            return bay(thing, 2) >= two;
        }
        return s.matches("900..") && about(7) >= two;
    }

    int simulate(long seed, int m) {
        argument(m >= 1 && m <= 99);
        World w = now.copy();
        int arrived = w.count(2);
        int burnt = w.burnt();
        long x = seed;
        for (int i = 0; i < m; i++) {
            x = x * 6364136223846793005L + 1442695040888963407L;
            int r = (int) (x >>> 33);
            if (r % 5 == 0 && !w.convoys.isEmpty()) {
                w.convoys.get(r / 8 % w.convoys.size()).held = r / 64 % 6;
            } else if (r % 5 == 1 && !w.depots.isEmpty()) {
                Depot d = w.depots.get(r / 8 % w.depots.size());
                d.liters = Math.min(999, d.liters + r / 64 % 30);
            }
            w.pass(1);
        }
        return 10000 * (w.count(2) - arrived) + w.burnt() - burnt;
    }

    int save(int slot) {
        index(slot == 0 || slot == 1);
        slots[slot] = now.copy();
        return now.hours;
    }

    int restore(int slot) {
        index(slot == 0 || slot == 1);
        state(slots[slot] != null);
        now = slots[slot].copy();
        past.clear();
        return now.hours;
    }
}
