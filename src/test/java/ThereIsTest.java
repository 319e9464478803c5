/** Promises 1 and 6 to 12: a new object, and what tells about it. */
public final class ThereIsTest {
    private static final int NONE = WinterRoad.NONE;
    private static final int[] FAR = {Integer.MIN_VALUE, -9, -1, 16, Integer.MAX_VALUE};

    public static void main(String[] args) {
        newObject();
        about();
        convoy();
        member();
        vehicle();
        gate();
        bay();
        depot();
        Check.end();
    }

    private static void newObject() {
        WinterRoad x = new WinterRoad();
        Check.due("NONE", NONE, -9);
        Check.due("about(0)", x.about(0), 20);
        for (int what = 1; what <= 11; what++) {
            Check.due("about(" + what + "), new", x.about(what), 0);
        }
        Check.due("clearText", x.clearText(), 0);
        Check.badState("undo", () -> x.undo());
        Check.badState("restore(0)", () -> x.restore(0));
        Check.badState("restore(1)", () -> x.restore(1));
        Check.badIndex("convoy(0, 0)", () -> x.convoy(0, 0));
        Check.badIndex("member(0, 0)", () -> x.member(0, 0));
        Check.badIndex("vehicle(0, 0)", () -> x.vehicle(0, 0));
        Check.badIndex("gate(0, 0)", () -> x.gate(0, 0));
        Check.badIndex("bay(0, 0)", () -> x.bay(0, 0));
        Check.badIndex("depot(0, 0)", () -> x.depot(0, 0));
    }

    private static void about() {
        WinterRoad x = Check.road("W20g19020000b012b022b032d00000d20100"
                + "cv942005v919999cv119999");
        Check.badArgument("about(-1)", () -> x.about(-1));
        Check.badArgument("about(12)", () -> x.about(12));
        x.pass(3);
        int[] want = {20, 3, 1, 3, 2, 2, 3, 1, 0, 0, 100, 0};
        want[9] = 203 - burntBy(x);
        want[11] = burntBy(x);
        for (int what = 0; what <= 11; what++) {
            Check.due("about(" + what + ")", x.about(what), want[what]);
        }
        WinterRoad y = Check.road("W20b012cv942005v919999");
        y.pass(1);
        Check.due("in bays", y.about(8), 1);
        Check.due("burnt", y.about(11), 4 + 9);
        Check.due("in tanks, those in bays too", y.about(9), 1 + 90);
        y.pass(2);
        Check.due("in tanks, the arrived too", y.about(9), 1 + 79);
    }

    private static int burntBy(WinterRoad x) {
        return x.vehicle(0, 6) + x.vehicle(1, 6) + x.vehicle(2, 6);
    }

    private static void convoy() {
        WinterRoad x = Check.road("W10cv429950v319920c");
        for (int i : FAR) {
            Check.badIndex("convoy(" + i + ", 0)", () -> x.convoy(i, 0));
            Check.badIndex("convoy(" + i + ", 8)", () -> x.convoy(i, 8));
        }
        Check.badIndex("convoy(2, -1)", () -> x.convoy(2, -1));
        Check.badArgument("convoy(0, -1)", () -> x.convoy(0, -1));
        Check.badArgument("convoy(0, 8)", () -> x.convoy(0, 8));
        x.hold(0, 7);
        row(x, 0, 0, 2, 3, 7, 0, 0, 70, 0);
        row(x, 1, 0, 0, 0, 0, 0, 0, 0, 0);
        x.hold(0, 0);
        x.pass(1);
        row(x, 0, 3, 2, 3, 0, 0, 0, 61, 0);
        x.pass(3);
        row(x, 0, 10, 0, 0, 0, 0, 0, 0, 1);
    }

    private static void row(WinterRoad x, int c, int... want) {
        for (int what = 0; what < want.length; what++) {
            Check.due("convoy(" + c + ", " + what + ")", x.convoy(c, what), want[what]);
        }
    }

    private static void member() {
        WinterRoad x = Check.road("W10cv429950v319920ccv919999v819999");
        for (int i : FAR) {
            Check.badIndex("member(" + i + ", 0)", () -> x.member(i, 0));
            Check.badIndex("member(" + i + ", -1)", () -> x.member(i, -1));
        }
        Check.badIndex("member(3, 0)", () -> x.member(3, 0));
        Check.badArgument("member(0, -1)", () -> x.member(0, -1));
        Check.badArgument("member(0, MIN)", () -> x.member(0, Integer.MIN_VALUE));
        Check.due("member(0, 0)", x.member(0, 0), 0);
        Check.due("member(0, 1)", x.member(0, 1), 1);
        Check.due("member(0, 2)", x.member(0, 2), NONE);
        Check.due("member(0, 8)", x.member(0, 8), NONE);
        Check.due("member(0, 16), which is the place of another", x.member(0, 16), NONE);
        Check.due("member(0, MAX)", x.member(0, Integer.MAX_VALUE), NONE);
        Check.due("member(3, MAX)", x.member(2, Integer.MAX_VALUE), NONE);
        Check.due("member(1, 0)", x.member(1, 0), NONE);
        Check.due("member(2, 1)", x.member(2, 1), 3);
        x.pass(4);
        Check.due("member(2, 0) behind its arrival", x.member(2, 0), NONE);
    }

    private static void vehicle() {
        WinterRoad x = Check.road("W10b011b024cv143503ccv829999");
        for (int i : FAR) {
            Check.badIndex("vehicle(" + i + ", 0)", () -> x.vehicle(i, 0));
            Check.badIndex("vehicle(" + i + ", 7)", () -> x.vehicle(i, 7));
        }
        Check.badIndex("vehicle(2, 0)", () -> x.vehicle(2, 0));
        Check.badArgument("vehicle(0, -1)", () -> x.vehicle(0, -1));
        Check.badArgument("vehicle(1, 7)", () -> x.vehicle(1, 7));
        vehicleRow(x, 0, 1, 4, 35, 3, 0, 0, 0);
        vehicleRow(x, 1, 8, 2, 99, 99, 0, 2, 0);
        x.pass(2);
        vehicleRow(x, 1, 8, 2, 99, 79, 2, NONE, 20);
        WinterRoad y = Check.road("W10b011b024cv143509v119999");
        y.pass(3);
        vehicleRow(y, 0, 1, 4, 35, 1, 1, 1, 8);
    }

    private static void vehicleRow(WinterRoad x, int v, int... want) {
        for (int what = 0; what < want.length; what++) {
            Check.due("vehicle(" + v + ", " + what + ")", x.vehicle(v, what), want[what]);
        }
    }

    private static void gate() {
        WinterRoad x = Check.road("W10g09050301g01240000");
        for (int i : FAR) {
            Check.badIndex("gate(" + i + ", 0)", () -> x.gate(i, 0));
            Check.badIndex("gate(" + i + ", 6)", () -> x.gate(i, 6));
        }
        Check.badIndex("gate(2, 0)", () -> x.gate(2, 0));
        Check.badArgument("gate(0, -1)", () -> x.gate(0, -1));
        Check.badArgument("gate(0, 6)", () -> x.gate(0, 6));
        int[] numbers = {9, 5, 3, 1};
        for (int what = 0; what < 4; what++) {
            Check.due("gate(0, " + what + ")", x.gate(0, what), numbers[what]);
        }
        int[] closedFor = {2, 1, 0, 0, 3, 2, 1, 0, 0, 3};
        for (int h = 0; h < closedFor.length; h++) {
            Check.due("gate(0, 4) in hour " + h, x.gate(0, 4), closedFor[h] > 0 ? 1 : 0);
            Check.due("gate(0, 5) in hour " + h, x.gate(0, 5), closedFor[h]);
            Check.due("never closed, gate(1, 5)", x.gate(1, 5), 0);
            x.pass(1);
        }
    }

    private static void bay() {
        WinterRoad x = Check.road("W20b091b016cv212001v312001v919999");
        for (int i : FAR) {
            Check.badIndex("bay(" + i + ", 0)", () -> x.bay(i, 0));
            Check.badIndex("bay(" + i + ", 4)", () -> x.bay(i, 4));
        }
        Check.badIndex("bay(2, 0)", () -> x.bay(2, 0));
        Check.badArgument("bay(0, -1)", () -> x.bay(0, -1));
        Check.badArgument("bay(1, 4)", () -> x.bay(1, 4));
        bayRow(x, 0, 9, 1, 0, NONE);
        bayRow(x, 1, 1, 6, 0, NONE);
        x.pass(1);
        bayRow(x, 0, 9, 1, 0, NONE);
        bayRow(x, 1, 1, 6, 2, 0);
    }

    private static void bayRow(WinterRoad x, int b, int... want) {
        for (int what = 0; what < want.length; what++) {
            Check.due("bay(" + b + ", " + what + ")", x.bay(b, what), want[what]);
        }
    }

    private static void depot() {
        WinterRoad x = Check.road("W10d10999d00020cv112000");
        for (int i : FAR) {
            Check.badIndex("depot(" + i + ", 0)", () -> x.depot(i, 0));
            Check.badIndex("depot(" + i + ", 2)", () -> x.depot(i, 2));
        }
        Check.badIndex("depot(2, 0)", () -> x.depot(2, 0));
        Check.badArgument("depot(0, -1)", () -> x.depot(0, -1));
        Check.badArgument("depot(1, 2)", () -> x.depot(1, 2));
        x.pass(1);
        Check.due("depot(0, 0)", x.depot(0, 0), 10);
        Check.due("depot(0, 1)", x.depot(0, 1), 999);
        Check.due("depot(1, 0)", x.depot(1, 0), 0);
        Check.due("depot(1, 1)", x.depot(1, 1), 0);
    }
}
