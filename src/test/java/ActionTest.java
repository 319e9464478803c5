/** Promises 13 to 21: the actions and undo. */
public final class ActionTest {
    private static final int NONE = WinterRoad.NONE;

    public static void main(String[] args) {
        addGate();
        addBay();
        addDepot();
        addConvoy();
        addVehicle();
        addVehicleOnTheWay();
        hold();
        supply();
        pass();
        undo();
        undoRemembersFourteen();
        undoOfEachAction();
        refusedCallsAreNoActions();
        Check.end();
    }

    private static void addGate() {
        WinterRoad x = new WinterRoad();
        int[][] bad = {{0, 2, 0, 0}, {20, 2, 0, 0}, {-1, 2, 0, 0}, {1, 1, 0, 0}, {1, 25, 0, 0}, {1, 2, 2, 0},
            {1, 2, -1, 0}, {1, 2, 0, 2}, {1, 2, 0, -1}, {1, 0, 0, 0}, {1, Integer.MIN_VALUE, 0, 0}};
        for (int[] b : bad) {
            Check.badArgument("addGate of " + b[0] + " " + b[1] + " " + b[2] + " " + b[3],
                    () -> x.addGate(b[0], b[1], b[2], b[3]));
        }
        Check.due("addGate", x.addGate(19, 2, 1, 1), 0);
        Check.due("addGate at 1", x.addGate(1, 24, 23, 23), 1);
        Check.due("phase", x.gate(1, 3), 23);
        Check.badState("addGate at 19 again", () -> x.addGate(19, 24, 0, 0));
        Check.badArgument("addGate at 19 again with period 1", () -> x.addGate(19, 1, 0, 0));
        x.addGate(2, 2, 0, 0);
        Check.due("addGate", x.addGate(3, 3, 2, 1), 3);
        Check.badState("a fifth", () -> x.addGate(4, 2, 0, 0));
        Check.badArgument("a fifth at 20", () -> x.addGate(20, 2, 0, 0));
        Check.due("gates", x.about(2), 4);
        WinterRoad y = Check.road("W60");
        Check.due("at 59 of 60", y.addGate(59, 2, 0, 0), 0);
        Check.badArgument("at 60 of 60", () -> y.addGate(60, 2, 0, 0));
    }

    private static void addBay() {
        WinterRoad x = new WinterRoad();
        int[][] bad = {{0, 1}, {20, 1}, {1, 0}, {1, 7}, {Integer.MIN_VALUE, 1}, {1, Integer.MAX_VALUE}};
        for (int[] b : bad) {
            Check.badArgument("addBay of " + b[0] + " " + b[1], () -> x.addBay(b[0], b[1]));
        }
        Check.due("addBay", x.addBay(19, 6), 0);
        Check.badState("addBay at 19 again", () -> x.addBay(19, 1));
        for (int km = 1; km <= 5; km++) {
            Check.due("addBay at " + km, x.addBay(km, 1), km);
        }
        Check.badState("a seventh", () -> x.addBay(6, 1));
        Check.badArgument("a seventh with 7 places", () -> x.addBay(6, 7));
        Check.due("places", x.bay(0, 1), 6);
        Check.due("kilometer", x.bay(5, 0), 5);
        Check.due("bays", x.about(3), 6);
    }

    private static void addDepot() {
        WinterRoad x = new WinterRoad();
        int[][] bad = {{-1, 0}, {21, 0}, {0, -1}, {0, 1000}, {Integer.MAX_VALUE, 5}};
        for (int[] b : bad) {
            Check.badArgument("addDepot of " + b[0] + " " + b[1], () -> x.addDepot(b[0], b[1]));
        }
        Check.due("addDepot at the end", x.addDepot(20, 999), 0);
        Check.due("addDepot at the start", x.addDepot(0, 0), 1);
        Check.badState("addDepot at 0 again", () -> x.addDepot(0, 1));
        Check.badArgument("addDepot at 0 again with 1000", () -> x.addDepot(0, 1000));
        x.addDepot(1, 0);
        Check.due("addDepot", x.addDepot(2, 5), 3);
        Check.badState("a fifth", () -> x.addDepot(3, 1));
        Check.due("liters of all", x.about(10), 1004);
    }

    private static void addConvoy() {
        WinterRoad x = new WinterRoad();
        for (int c = 0; c < 4; c++) {
            Check.due("addConvoy", x.addConvoy(), c);
            Check.due("its kilometer", x.convoy(c, 0), 0);
            Check.due("its vehicles", x.convoy(c, 1), 0);
        }
        Check.badState("a fifth", () -> x.addConvoy());
        Check.due("convoys", x.about(5), 4);
    }

    private static void addVehicle() {
        WinterRoad x = new WinterRoad();
        Check.badIndex("no convoy", () -> x.addVehicle(0, 0, 1, 20, 0));
        x.addConvoy();
        x.addConvoy();
        Check.badIndex("convoy -1", () -> x.addVehicle(-1, 1, 1, 20, 0));
        Check.badIndex("convoy 2", () -> x.addVehicle(2, 1, 1, 20, 0));
        int[][] bad = {{0, 1, 20, 0}, {10, 1, 20, 0}, {1, 0, 20, 0}, {1, 5, 20, 0}, {1, 1, 19, 0},
            {1, 1, 100, 0}, {1, 1, 20, -1}, {1, 1, 20, 21}, {1, 1, 99, 100}};
        for (int[] b : bad) {
            Check.badArgument("addVehicle of " + b[0] + " " + b[1] + " " + b[2] + " " + b[3],
                    () -> x.addVehicle(0, b[0], b[1], b[2], b[3]));
        }
        for (int v = 0; v < 8; v++) {
            Check.due("addVehicle", x.addVehicle(0, 9, 4, 99, 99), v);
        }
        Check.badState("a ninth", () -> x.addVehicle(0, 1, 1, 20, 0));
        Check.badArgument("a ninth of speed 0", () -> x.addVehicle(0, 0, 1, 20, 0));
        for (int v = 8; v < 16; v++) {
            Check.due("addVehicle", x.addVehicle(1, 1, 1, 20, 20), v);
        }
        x.addConvoy();
        Check.badState("a seventeenth", () -> x.addVehicle(2, 1, 1, 20, 0));
        Check.due("vehicles", x.about(6), 16);
        Check.due("last of convoy 1", x.member(1, 7), 15);
    }

    private static void addVehicleOnTheWay() {
        WinterRoad x = Check.road("W10cv419999");
        x.pass(2);
        Check.due("addVehicle", x.addVehicle(0, 1, 1, 20, 20), 1);
        x.pass(1);
        Check.due("it slows", x.convoy(0, 0), 9);
        Check.due("it burns", x.vehicle(1, 6), 1);
        Check.due("they arrive", x.pass(1), 2);
        Check.badState("behind the arrival", () -> x.addVehicle(0, 1, 1, 20, 0));
        Check.badArgument("behind the arrival, use 5", () -> x.addVehicle(0, 1, 5, 20, 0));
    }

    private static void hold() {
        WinterRoad x = Check.road("W10cv119999");
        Check.badIndex("hold(1, 0)", () -> x.hold(1, 0));
        Check.badIndex("hold(-1, 24)", () -> x.hold(-1, 24));
        Check.badArgument("hold(0, -1)", () -> x.hold(0, -1));
        Check.badArgument("hold(0, 24)", () -> x.hold(0, 24));
        Check.due("hold(0, 23)", x.hold(0, 23), 0);
        x.pass(3);
        Check.due("hold(0, 1)", x.hold(0, 1), 20);
        Check.due("hold(0, 0)", x.hold(0, 0), 1);
        x.pass(10);
        Check.due("behind the arrival", x.hold(0, 5), 0);
        x.pass(1);
        Check.due("it stays", x.hold(0, 0), 5);
    }

    private static void supply() {
        WinterRoad x = Check.road("W10d00000d10600");
        Check.badIndex("supply(2, 1)", () -> x.supply(2, 1));
        Check.badIndex("supply(-1, 0)", () -> x.supply(-1, 0));
        Check.badArgument("supply(0, 0)", () -> x.supply(0, 0));
        Check.badArgument("supply(0, 501)", () -> x.supply(0, 501));
        Check.badArgument("supply(1, MAX)", () -> x.supply(1, Integer.MAX_VALUE));
        Check.badState("supply(1, 400)", () -> x.supply(1, 400));
        Check.due("supply(1, 399)", x.supply(1, 399), 999);
        Check.badState("supply(1, 1)", () -> x.supply(1, 1));
        Check.due("supply(0, 500)", x.supply(0, 500), 500);
        Check.due("supply(0, 1)", x.supply(0, 1), 501);
        Check.due("depot 0", x.depot(0, 1), 501);
    }

    private static void pass() {
        WinterRoad x = Check.road("W10cv119999cv219999v219999");
        Check.badArgument("pass(0)", () -> x.pass(0));
        Check.badArgument("pass(-1)", () -> x.pass(-1));
        Check.badArgument("pass(100)", () -> x.pass(100));
        Check.due("hours", x.about(1), 0);
        Check.due("pass(4)", x.pass(4), 0);
        Check.due("pass(1)", x.pass(1), 2);
        Check.due("pass(99)", x.pass(99), 1);
        Check.due("hours then", x.about(1), 104);
    }

    private static void undo() {
        WinterRoad x = Check.road("W10cv119999");
        Check.badState("undo of nothing", () -> x.undo());
        x.hold(0, 0);
        x.pass(1);
        x.append('x');
        x.save(0);
        Check.due("undo of pass", x.undo(), 1);
        Check.due("hours", x.about(1), 0);
        Check.due("kilometer", x.convoy(0, 0), 0);
        Check.due("the text stays", x.clearText(), 12);
        Check.due("undo of hold, which changed nothing", x.undo(), 0);
        Check.badState("undo of nothing again", () -> x.undo());
        Check.due("the slot stays", x.restore(0), 1);
    }

    private static void undoRemembersFourteen() {
        WinterRoad x = Check.road("W10cv119999");
        for (int i = 1; i <= 20; i++) {
            x.hold(0, i);
        }
        for (int i = 1; i <= 14; i++) {
            Check.due("undo " + i, x.undo(), 14 - i);
            Check.due("held then", x.convoy(0, 3), 20 - i);
        }
        Check.badState("a fifteenth", () -> x.undo());
        x.hold(0, 9);
        Check.due("undo of one more", x.undo(), 0);
        Check.due("held", x.convoy(0, 3), 6);
    }

    private static void undoOfEachAction() {
        WinterRoad x = new WinterRoad();
        x.addGate(1, 2, 1, 0);
        x.addBay(2, 1);
        x.addDepot(3, 4);
        x.addConvoy();
        x.addVehicle(0, 1, 1, 20, 20);
        x.supply(0, 9);
        Check.due("undo of supply", x.undo(), 5);
        Check.due("liters", x.depot(0, 1), 4);
        Check.due("undo of addVehicle", x.undo(), 4);
        Check.due("vehicles", x.about(6), 0);
        Check.due("members", x.member(0, 0), NONE);
        Check.due("undo of addConvoy", x.undo(), 3);
        Check.due("convoys", x.about(5), 0);
        Check.due("undo of addDepot", x.undo(), 2);
        Check.due("depots", x.about(4), 0);
        Check.due("undo of addBay", x.undo(), 1);
        Check.due("bays", x.about(3), 0);
        Check.due("undo of addGate", x.undo(), 0);
        Check.due("gates", x.about(2), 0);
        Check.due("addGate anew", x.addGate(1, 24, 0, 0), 0);
        Check.due("it is the new one", x.gate(0, 1), 24);
    }

    private static void refusedCallsAreNoActions() {
        WinterRoad x = new WinterRoad();
        x.addDepot(0, 999);
        Check.badState("supply", () -> x.supply(0, 1));
        Check.badArgument("pass", () -> x.pass(0));
        Check.badIndex("hold", () -> x.hold(0, 0));
        Check.badState("addDepot", () -> x.addDepot(0, 0));
        Check.badArgument("addBay", () -> x.addBay(0, 0));
        Check.badArgument("addGate", () -> x.addGate(0, 0, 0, 0));
        Check.badIndex("addVehicle", () -> x.addVehicle(0, 1, 1, 20, 0));
        Check.due("undo", x.undo(), 0);
        Check.due("depots", x.about(4), 0);
    }
}
