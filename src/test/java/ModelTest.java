import java.util.Random;

/**
 * Runs of up to 512 calls, made of fixed seeds, on a road and on the plain model: each call must be
 * answered, or refused with the very same exception, by both. All promises.
 */
public final class ModelTest {
    private static final int RUNS = 100;
    private static final int[] STRANGE = {Integer.MIN_VALUE, -1000000, -10, -9, -1, 0, 1, 2, 3, 4, 5, 6, 7, 8,
        9, 10, 15, 16, 17, 19, 20, 21, 23, 24, 25, 60, 99, 100, 140, 255, 256, 300, 500, 501, 999, 1000, 1 << 16,
        1 << 28, 1 << 30, Integer.MAX_VALUE};

    private final Random random;
    private final WinterRoad road = new WinterRoad();
    private final PlainModel plain = new PlainModel();
    private final StringBuilder told = new StringBuilder();
    private boolean same = true;

    private ModelTest(long seed) {
        random = new Random(seed);
    }

    public static void main(String[] args) {
        for (int run = 0; run < RUNS; run++) {
            Check.due("run " + run + " as the plain model", new ModelTest(run).run(), 1);
        }
        Check.end();
    }

    private int run() {
        int calls = 0;
        for (int part = 0; calls < 500 && same; part++) {
            calls += part % 40 == 0 ? journey() : 1;
            if (part % 40 != 0) {
                call();
            }
        }
        if (!same) {
            System.out.println(told);
        }
        return same ? 1 : 0;
    }

    private static String answer(Check.Call call) {
        try {
            return Integer.toString(call.answer());
        } catch (RuntimeException e) {
            return e.getClass().getName();
        }
    }

    private void both(String name, Check.Call onRoad, Check.Call onPlain) {
        String got = answer(onRoad);
        String want = answer(onPlain);
        told.append(name).append(" = ").append(got).append('\n');
        if (!got.equals(want)) {
            same = false;
            told.append("due is ").append(want);
        }
    }

    private int any(int least, int most) {
        return least + random.nextInt(most - least + 1);
    }

    /** Mostly a number of the range, sometimes one just outside or a strange one. */
    private int near(int least, int most) {
        int kind = random.nextInt(40);
        if (kind == 0) {
            return STRANGE[random.nextInt(STRANGE.length)];
        }
        return kind == 1 ? least - 1 : kind == 2 ? most + 1 : any(least, most);
    }

    // ---- texts

    private int journey() {
        both("clearText()", road::clearText, plain::clearText);
        String text = text();
        for (int i = 0; i < text.length(); i++) {
            char c = text.charAt(i);
            both("append(" + c + ")", () -> road.append(c), () -> plain.append(c));
        }
        both("errorPosition()", road::errorPosition, plain::errorPosition);
        both("load()", road::load, plain::load);
        return text.length() + 3;
    }

    private String text() {
        int length = any(10, random.nextInt(3) == 0 ? 60 : 20);
        StringBuilder s = new StringBuilder("W" + length);
        int parts = any(0, 25);
        for (int i = 0; i < parts && s.length() < 130; i++) {
            s.append(part(length, i));
        }
        if (random.nextInt(3) == 0) {
            String signs = "Wgbdcv0123456789 x";
            s.setCharAt(random.nextInt(s.length()), signs.charAt(random.nextInt(signs.length())));
        }
        return s.length() > 140 || random.nextInt(9) == 0 ? s.substring(0, Math.min(140, any(0, s.length()))) : s.toString();
    }

    private String part(int length, int i) {
        int kind = i == 0 ? 4 : random.nextInt(9);
        int km = any(1, length - 1);
        if (kind == 0) {
            int period = any(2, 24);
            return String.format("g%02d%02d%02d%02d", km, period, any(0, period - 1), any(0, period - 1));
        } else if (kind == 1 || kind == 2) {
            return String.format("b%02d%d", km, any(1, 6));
        } else if (kind == 3) {
            return String.format("d%02d%03d", any(0, length), any(0, random.nextInt(2) == 0 ? 60 : 999));
        } else if (kind == 4) {
            return "c";
        }
        int tank = any(20, 99);
        return String.format("v%d%d%d%02d", any(1, 9), any(1, 4), tank, any(0, random.nextInt(3) == 0 ? tank : 20));
    }

    // ---- calls

    private void call() {
        switch (random.nextInt(11)) {
            case 0 -> add();
            case 1 -> addVehicle();
            case 2 -> act();
            case 3, 4 -> pass();
            case 5 -> ahead();
            case 6 -> script();
            case 7 -> slot();
            case 8 -> whole();
            default -> ask();
        }
    }

    private void add() {
        int km = near(0, road.about(0));
        int period = near(2, 24);
        int closed = near(0, Math.max(0, Math.min(23, period - 1)));
        int phase = near(0, Math.max(0, Math.min(23, period - 1)));
        int places = near(1, 6);
        int liters = near(0, random.nextBoolean() ? 80 : 999);
        switch (random.nextInt(4)) {
            case 0 -> both("addGate(" + km + ", " + period + ", " + closed + ", " + phase + ")",
                    () -> road.addGate(km, period, closed, phase), () -> plain.addGate(km, period, closed, phase));
            case 1 -> both("addBay(" + km + ", " + places + ")",
                    () -> road.addBay(km, places), () -> plain.addBay(km, places));
            case 2 -> both("addDepot(" + km + ", " + liters + ")",
                    () -> road.addDepot(km, liters), () -> plain.addDepot(km, liters));
            default -> both("addConvoy()", road::addConvoy, plain::addConvoy);
        }
    }

    private void addVehicle() {
        int c = near(0, 3);
        int speed = near(1, 9);
        int use = near(1, 4);
        int tank = near(20, 99);
        int liters = near(0, random.nextInt(3) == 0 ? Math.max(0, Math.min(tank, 99)) : 20);
        both("addVehicle(" + c + ", " + speed + ", " + use + ", " + tank + ", " + liters + ")",
                () -> road.addVehicle(c, speed, use, tank, liters), () -> plain.addVehicle(c, speed, use, tank, liters));
    }

    private void act() {
        int i = near(0, 3);
        int hours = near(0, random.nextBoolean() ? 3 : 23);
        int liters = near(1, random.nextBoolean() ? 30 : 500);
        switch (random.nextInt(4)) {
            case 0, 1 -> both("hold(" + i + ", " + hours + ")", () -> road.hold(i, hours), () -> plain.hold(i, hours));
            case 2 -> both("supply(" + i + ", " + liters + ")",
                    () -> road.supply(i, liters), () -> plain.supply(i, liters));
            default -> both("undo()", road::undo, plain::undo);
        }
    }

    private void pass() {
        int hours = near(1, random.nextInt(20) == 0 ? 99 : 4);
        both("pass(" + hours + ")", () -> road.pass(hours), () -> plain.pass(hours));
    }

    private void ahead() {
        int i = near(0, 3);
        switch (random.nextInt(4)) {
            case 0 -> both("arrives(" + i + ")", () -> road.arrives(i), () -> plain.arrives(i));
            case 1 -> both("leaves(" + i + ")", () -> road.leaves(i), () -> plain.leaves(i));
            case 2 -> both("bestHold(" + i + ")", () -> road.bestHold(i), () -> plain.bestHold(i));
            default -> both("lacks(" + i + ")", () -> road.lacks(i), () -> plain.lacks(i));
        }
    }

    private void script() {
        long seed = random.nextLong();
        int m = near(1, 99);
        both("simulate(" + seed + ", " + m + ")", () -> road.simulate(seed, m), () -> plain.simulate(seed, m));
        int n = near(1, 3);
        long script = 0;
        for (int i = 0; i < Math.min(3, Math.max(1, n)); i++) {
            script = script * 100000 + command();
        }
        long s = random.nextInt(30) == 0 ? script * STRANGE[random.nextInt(STRANGE.length)] : script;
        both("runScript(" + n + ", " + s + ")", () -> road.runScript(n, s), () -> plain.runScript(n, s));
    }

    private int command() {
        int thing = any(0, random.nextInt(5) == 0 ? 9 : 2) * 1000;
        int vehicle = any(0, random.nextInt(5) == 0 ? 17 : 6) * 100;
        switch (random.nextInt(12)) {
            case 0, 1: return 10000 + any(0, 30);
            case 2: return 20000 + thing + any(0, 25);
            case 3: return 30000 + thing + any(0, 510);
            case 4: return 40000 + thing + any(0, 30);
            case 5: return 50000 + vehicle + any(0, 40);
            case 6: return 60000 + vehicle + any(0, 3);
            case 7: return 70000 + thing + any(0, 2);
            case 8: return 80000 + thing + any(0, 3);
            case 9: return 90000 + any(0, 5);
            default: return any(0, 99999);
        }
    }

    private void slot() {
        int slot = near(0, 1);
        if (random.nextInt(3) > 0) {
            both("save(" + slot + ")", () -> road.save(slot), () -> plain.save(slot));
        } else {
            both("restore(" + slot + ")", () -> road.restore(slot), () -> plain.restore(slot));
        }
    }

    private void ask() {
        int i = near(0, 5);
        int v = near(0, 15);
        int what = near(0, 7);
        int about = near(0, 11);
        switch (random.nextInt(7)) {
            case 0 -> both("about(" + about + ")", () -> road.about(about), () -> plain.about(about));
            case 1 -> both("convoy(" + i + ", " + what + ")", () -> road.convoy(i, what), () -> plain.convoy(i, what));
            case 2 -> both("member(" + i + ", " + v + ")", () -> road.member(i, v), () -> plain.member(i, v));
            case 3 -> both("vehicle(" + v + ", " + what + ")", () -> road.vehicle(v, what), () -> plain.vehicle(v, what));
            case 4 -> both("gate(" + i + ", " + what + ")", () -> road.gate(i, what), () -> plain.gate(i, what));
            case 5 -> both("bay(" + i + ", " + what + ")", () -> road.bay(i, what), () -> plain.bay(i, what));
            default -> both("depot(" + i + ", " + what + ")", () -> road.depot(i, what), () -> plain.depot(i, what));
        }
    }

    /** Asks for everything at once; such questions are not counted as calls of the run. */
    private void whole() {
        for (int i = 0; i <= 16; i++) {
            for (int j = 0; j <= 11; j++) {
                int a = i;
                int b = j;
                both("about(" + b + ")", () -> road.about(b), () -> plain.about(b));
                both("convoy(" + a + ", " + b + ")", () -> road.convoy(a, b), () -> plain.convoy(a, b));
                both("member(" + a + ", " + b + ")", () -> road.member(a, b), () -> plain.member(a, b));
                both("vehicle(" + a + ", " + b + ")", () -> road.vehicle(a, b), () -> plain.vehicle(a, b));
                both("gate(" + a + ", " + b + ")", () -> road.gate(a, b), () -> plain.gate(a, b));
                both("bay(" + a + ", " + b + ")", () -> road.bay(a, b), () -> plain.bay(a, b));
                both("depot(" + a + ", " + b + ")", () -> road.depot(a, b), () -> plain.depot(a, b));
            }
        }
    }
}
