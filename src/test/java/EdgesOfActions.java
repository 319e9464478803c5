/** The edges that promises 13 to 21 name, sentence by sentence. */
final class EdgesOfActions {
    private static final int[] NO_CONVOY = {Integer.MIN_VALUE, -1, 1, 4, 1 << 30, Integer.MAX_VALUE};

    private EdgesOfActions() {
    }

    static void run() {
        gateOutOfRange();
        gateRefused();
        bayOutOfRange();
        bayRefused();
        depotOutOfRange();
        depotRefused();
        convoy();
        vehicleNoConvoy();
        vehicleOutOfRange();
        vehicleRefused();
        vehicleAtTheEnd();
        holdNoConvoy();
        holdOutOfRange();
        holdBefore();
        supplyNoDepot();
        supplyOutOfRange();
        supplyRefused();
        passOutOfRange();
        passArrivals();
        undo();
        undoRefused();
    }

    // ---- addGate

    private static void gateOutOfRange() {
        WinterRoad x = Check.road("W60");
        Check.sentence("Promise 13", "Throws `IllegalArgumentException` if an argument is out of range");
        for (int km : new int[] {Integer.MIN_VALUE, -1, 0, 60, 61, Integer.MAX_VALUE}) {
            Check.badArgument("kilometer " + km, () -> x.addGate(km, 2, 0, 0));
        }
        Check.sentence("Promise 13", "- `period`: 2 to 24");
        for (int period : new int[] {Integer.MIN_VALUE, -2, 0, 1, 25, Integer.MAX_VALUE}) {
            Check.badArgument("period " + period, () -> x.addGate(1, period, 0, 0));
        }
        Check.sentence("Promise 13", "- `closed`: 0 to period - 1");
        for (int closed : new int[] {Integer.MIN_VALUE, -1, 5, 6, 23, Integer.MAX_VALUE}) {
            Check.badArgument("closed " + closed + " of 5", () -> x.addGate(1, 5, closed, 0));
        }
        Check.sentence("Promise 13", "- `phase`: 0 to period - 1");
        for (int phase : new int[] {Integer.MIN_VALUE, -1, 5, 6, 23, Integer.MAX_VALUE}) {
            Check.badArgument("phase " + phase + " of 5", () -> x.addGate(1, 5, 0, phase));
        }
        Check.sentence("Promise 13", "Returns its number.");
        Check.due("least", x.addGate(1, 2, 0, 0), 0);
        Check.due("most of 5", x.addGate(58, 5, 4, 4), 1);
        Check.due("most", x.addGate(59, 24, 23, 23), 2);
    }

    private static void gateRefused() {
        Check.sentence("Promise 13", "Throws `IllegalStateException` if there are 4 gates, or one at this kilometer");
        WinterRoad x = Check.road("W10g01020000g05020000g09020000");
        for (int km : new int[] {1, 5, 9}) {
            Check.badState("one at " + km, () -> x.addGate(km, 2, 0, 0));
        }
        Check.due("the fourth", x.addGate(2, 2, 0, 0), 3);
        Check.badState("a fifth", () -> x.addGate(3, 2, 0, 0));
        Check.badState("a fifth where one is", () -> x.addGate(2, 2, 0, 0));
        x.undo();
        Check.due("the fourth again, elsewhere", x.addGate(3, 2, 0, 0), 3);
    }

    // ---- addBay

    private static void bayOutOfRange() {
        WinterRoad x = Check.road("W60");
        Check.sentence("Promise 14", "Throws `IllegalArgumentException` if an argument is out of range");
        for (int km : new int[] {Integer.MIN_VALUE, -1, 0, 60, 61, Integer.MAX_VALUE}) {
            Check.badArgument("kilometer " + km, () -> x.addBay(km, 1));
        }
        Check.sentence("Promise 14", "- `places`: 1 to 6");
        for (int places : new int[] {Integer.MIN_VALUE, -1, 0, 7, Integer.MAX_VALUE}) {
            Check.badArgument(places + " places", () -> x.addBay(1, places));
        }
        Check.sentence("Promise 14", "Returns its number.");
        Check.due("least", x.addBay(1, 1), 0);
        Check.due("most", x.addBay(59, 6), 1);
    }

    private static void bayRefused() {
        Check.sentence("Promise 14", "Throws `IllegalStateException` if there are 6 bays, or one at this kilometer");
        WinterRoad x = Check.road("W10b011b021b031b041b091");
        for (int km : new int[] {1, 4, 9}) {
            Check.badState("one at " + km, () -> x.addBay(km, 2));
        }
        Check.due("the sixth", x.addBay(5, 1), 5);
        Check.badState("a seventh", () -> x.addBay(6, 1));
    }

    // ---- addDepot

    private static void depotOutOfRange() {
        WinterRoad x = Check.road("W60");
        Check.sentence("Promise 15", "Throws `IllegalArgumentException` if an argument is out of range");
        for (int km : new int[] {Integer.MIN_VALUE, -1, 61, 62, Integer.MAX_VALUE}) {
            Check.badArgument("kilometer " + km, () -> x.addDepot(km, 1));
        }
        Check.sentence("Promise 15", "- `liters`: 0 to 999");
        for (int liters : new int[] {Integer.MIN_VALUE, -1, 1000, Integer.MAX_VALUE}) {
            Check.badArgument(liters + " liters", () -> x.addDepot(0, liters));
        }
        Check.sentence("Promise 15", "Returns its number.");
        Check.due("least", x.addDepot(0, 0), 0);
        Check.due("most", x.addDepot(60, 999), 1);
    }

    private static void depotRefused() {
        Check.sentence("Promise 15", "Throws `IllegalStateException` if there are 4 depots, or one at this"
                + " kilometer");
        WinterRoad x = Check.road("W10d00000d05000d10000");
        for (int km : new int[] {0, 5, 10}) {
            Check.badState("one at " + km, () -> x.addDepot(km, 1));
        }
        Check.due("the fourth", x.addDepot(1, 1), 3);
        Check.badState("a fifth", () -> x.addDepot(2, 1));
    }

    // ---- addConvoy

    private static void convoy() {
        Check.sentence("Promise 16", "Adds a convoy without vehicles, at the kilometer 0.");
        WinterRoad x = Check.road("W10cv919999cv919999");
        x.pass(2);
        Check.due("the third", x.addConvoy(), 2);
        Check.dueEach("kilometer, vehicles, held, at the end",
                new int[] {x.convoy(2, 0), x.convoy(2, 1), x.convoy(2, 3), x.convoy(2, 7)}, 0, 0, 0, 0);
        Check.sentence("Promise 16", "Throws `IllegalStateException` if there are 4 convoys");
        Check.due("the fourth", x.addConvoy(), 3);
        Check.badState("a fifth", () -> x.addConvoy());
        Check.due("convoys", x.about(5), 4);
    }

    // ---- addVehicle

    private static void vehicleNoConvoy() {
        Check.sentence("Promise 17", "Throws `IndexOutOfBoundsException` if there is no such convoy");
        WinterRoad x = Check.road("W10c");
        for (int c : NO_CONVOY) {
            Check.badIndex("convoy " + c, () -> x.addVehicle(c, 1, 1, 20, 0));
            Check.badIndex("convoy " + c + ", speed 0", () -> x.addVehicle(c, 0, 1, 20, 0));
        }
        Check.badIndex("of none", () -> new WinterRoad().addVehicle(0, 1, 1, 20, 0));
    }

    private static void vehicleOutOfRange() {
        WinterRoad x = Check.road("W10c");
        Check.sentence("Promise 17", "Throws `IllegalArgumentException` if another argument is out of range");
        for (int i : new int[] {Integer.MIN_VALUE, Integer.MAX_VALUE}) {
            Check.badArgument("speed " + i, () -> x.addVehicle(0, i, 1, 20, 0));
            Check.badArgument("use " + i, () -> x.addVehicle(0, 1, i, 20, 0));
            Check.badArgument("tank " + i, () -> x.addVehicle(0, 1, 1, i, 0));
            Check.badArgument("liters " + i, () -> x.addVehicle(0, 1, 1, 20, i));
        }
        Check.sentence("Promise 17", "- `speed`: 1 to 9");
        Check.badArgument("speed 0", () -> x.addVehicle(0, 0, 1, 20, 0));
        Check.badArgument("speed 10", () -> x.addVehicle(0, 10, 1, 20, 0));
        Check.sentence("Promise 17", "- `use`: 1 to 4");
        Check.badArgument("use 0", () -> x.addVehicle(0, 1, 0, 20, 0));
        Check.badArgument("use 5", () -> x.addVehicle(0, 1, 5, 20, 0));
        Check.sentence("Promise 17", "- `tank`: 20 to 99");
        Check.badArgument("tank 19", () -> x.addVehicle(0, 1, 1, 19, 0));
        Check.badArgument("tank 100", () -> x.addVehicle(0, 1, 1, 100, 0));
        Check.sentence("Promise 17", "- `liters`: 0 to tank");
        Check.badArgument("-1 of 20", () -> x.addVehicle(0, 1, 1, 20, -1));
        Check.badArgument("21 of 20", () -> x.addVehicle(0, 1, 1, 20, 21));
        Check.badArgument("51 of 50", () -> x.addVehicle(0, 1, 1, 50, 51));
        Check.badArgument("100 of 99", () -> x.addVehicle(0, 1, 1, 99, 100));
        Check.sentence("Promise 17", "Returns its number.");
        Check.due("least", x.addVehicle(0, 1, 1, 20, 0), 0);
        Check.due("most", x.addVehicle(0, 9, 4, 99, 99), 1);
        Check.due("full", x.addVehicle(0, 1, 1, 20, 20), 2);
    }

    private static void vehicleRefused() {
        Check.sentence("Promise 17", "Throws `IllegalStateException` if there are 16 vehicles, the convoy has 8,");
        WinterRoad x = Check.road("W10c" + "v112000".repeat(7) + "c" + "v112000".repeat(7) + "c");
        Check.due("the eighth of convoy 0", x.addVehicle(0, 1, 1, 20, 0), 14);
        Check.badState("a ninth of convoy 0", () -> x.addVehicle(0, 1, 1, 20, 0));
        Check.due("the sixteenth", x.addVehicle(2, 1, 1, 20, 0), 15);
        Check.badState("a seventeenth in convoy 1, which has 7", () -> x.addVehicle(1, 1, 1, 20, 0));
        Check.badState("a seventeenth in convoy 2, which has 1", () -> x.addVehicle(2, 1, 1, 20, 0));
    }

    private static void vehicleAtTheEnd() {
        Check.sentence("Promise 17", "or it has come to the end of the road");
        WinterRoad x = Check.road("W10cv919999");
        x.pass(1);
        Check.due("1 kilometer ahead of the end", x.addVehicle(0, 9, 1, 20, 20), 1);
        Check.due("it arrives with the other", x.pass(1), 2);
        Check.badState("at the end", () -> x.addVehicle(0, 9, 1, 20, 20));
        x.undo();
        Check.due("1 kilometer ahead again", x.addVehicle(0, 9, 1, 20, 20), 2);
    }

    // ---- hold

    private static void holdNoConvoy() {
        Check.sentence("Promise 18", "Throws `IndexOutOfBoundsException` if there is no such convoy");
        WinterRoad x = Check.road("W10c");
        for (int c : NO_CONVOY) {
            Check.badIndex("convoy " + c, () -> x.hold(c, 0));
            Check.badIndex("convoy " + c + ", 24 hours", () -> x.hold(c, 24));
        }
        Check.badIndex("of none", () -> new WinterRoad().hold(0, 0));
    }

    private static void holdOutOfRange() {
        WinterRoad x = Check.road("W10cv119999");
        Check.sentence("Promise 18", "Throws `IllegalArgumentException` if hours is out of range");
        for (int hours : new int[] {Integer.MIN_VALUE, -1, 24, 25, Integer.MAX_VALUE}) {
            Check.badArgument(hours + " hours", () -> x.hold(0, hours));
        }
        Check.sentence("Promise 18", "- `hours`: 0 to 23: for how many hours from now on");
        x.hold(0, 23);
        x.pass(22);
        Check.due("behind 22 hours", x.convoy(0, 3), 1);
        x.hold(0, 23);
        x.pass(23);
        Check.due("held anew from then on, kilometer", x.convoy(0, 0), 0);
        x.pass(1);
        Check.due("it goes, kilometer", x.convoy(0, 0), 1);
        x.hold(0, 5);
        x.hold(0, 0);
        x.pass(1);
        Check.due("held for 0 hours, kilometer", x.convoy(0, 0), 2);
    }

    private static void holdBefore() {
        Check.sentence("Promise 18", "Returns for how many it was held before.");
        WinterRoad x = Check.road("W10cv119999");
        Check.due("not held", x.hold(0, 23), 0);
        Check.due("for 23", x.hold(0, 23), 23);
        x.pass(22);
        Check.due("for 1 still", x.hold(0, 1), 1);
        x.pass(1);
        Check.due("not held any more", x.hold(0, 0), 0);
    }

    // ---- supply

    private static void supplyNoDepot() {
        Check.sentence("Promise 19", "Throws `IndexOutOfBoundsException` if there is no such depot");
        WinterRoad x = Check.road("W10d00999");
        for (int d : new int[] {Integer.MIN_VALUE, -1, 1, 4, 1 << 30, Integer.MAX_VALUE}) {
            Check.badIndex("depot " + d, () -> x.supply(d, 1));
            Check.badIndex("depot " + d + ", 0 liters", () -> x.supply(d, 0));
        }
        Check.badIndex("of none", () -> new WinterRoad().supply(0, 1));
    }

    private static void supplyOutOfRange() {
        WinterRoad x = Check.road("W10d00000");
        Check.sentence("Promise 19", "Throws `IllegalArgumentException` if liters is out of range");
        for (int liters : new int[] {Integer.MIN_VALUE, -1, 0, 501, 502, Integer.MAX_VALUE}) {
            Check.badArgument(liters + " liters", () -> x.supply(0, liters));
        }
        Check.sentence("Promise 19", "- `liters`: 1 to 500");
        Check.due("1 liter", x.supply(0, 1), 1);
        Check.due("500 liters", x.supply(0, 500), 501);
        Check.sentence("Promise 19", "Returns its liters then.");
        Check.due("depot", x.depot(0, 1), 501);
    }

    private static void supplyRefused() {
        Check.sentence("Promise 19", "Throws `IllegalStateException` if it would have more than 999");
        WinterRoad x = Check.road("W10d00500d10998");
        Check.badState("500 and 500", () -> x.supply(0, 500));
        Check.due("500 and 499", x.supply(0, 499), 999);
        Check.badState("999 and 1", () -> x.supply(0, 1));
        Check.badState("998 and 2", () -> x.supply(1, 2));
        Check.due("998 and 1", x.supply(1, 1), 999);
    }

    // ---- pass

    private static void passOutOfRange() {
        WinterRoad x = Check.road("W10");
        Check.sentence("Promise 20", "Throws `IllegalArgumentException` if hours is out of range");
        for (int hours : new int[] {Integer.MIN_VALUE, -1, 0, 100, 101, Integer.MAX_VALUE}) {
            Check.badArgument(hours + " hours", () -> x.pass(hours));
        }
        Check.sentence("Promise 20", "- `hours`: 1 to 99");
        x.pass(1);
        Check.due("hours", x.about(1), 1);
        x.pass(99);
        Check.due("hours then", x.about(1), 100);
    }

    private static void passArrivals() {
        Check.sentence("Promise 20", "Returns the vehicles that arrive in them.");
        WinterRoad x = Check.road("W10cv119999v119999cv219999c" + "v119909".repeat(2));
        Check.due("none in 4 hours", x.pass(4), 0);
        Check.due("the last hour of convoy 1", x.pass(1), 1);
        Check.due("none in 4 hours more", x.pass(4), 0);
        Check.due("the last hour of convoy 0", x.pass(1), 2);
        Check.due("nobody more", x.pass(99), 0);
        Check.due("arrived in all", x.about(7), 3);
        Check.due("of no vehicles", new WinterRoad().pass(99), 0);
    }

    // ---- undo

    private static void undo() {
        Check.sentence("Promise 21", "Returns how many states are still remembered.");
        WinterRoad x = Check.road("W10");
        for (int i = 0; i < 20; i++) {
            x.pass(1);
        }
        Check.due("of 14, the first", x.undo(), 13);
        x.addConvoy();
        Check.due("one more and again", x.undo(), 13);
        for (int left = 12; left >= 0; left--) {
            Check.due("undo", x.undo(), left);
        }
        Check.due("hours", x.about(1), 6);
    }

    private static void undoRefused() {
        Check.sentence("Promise 21", "Throws `IllegalStateException` if none is remembered");
        WinterRoad x = new WinterRoad();
        Check.badState("of a new object", () -> x.undo());
        x.addConvoy();
        Check.due("of one", x.undo(), 0);
        Check.badState("of one more", () -> x.undo());
        Check.badArgument("a refused call", () -> x.pass(0));
        Check.badState("behind a refused call", () -> x.undo());
        x.addConvoy();
        x.save(0);
        x.restore(0);
        Check.badState("behind restore", () -> x.undo());
    }
}
