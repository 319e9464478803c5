/** The edges that the document names ahead of the hour and the text, and behind them, sentence by sentence. */
final class EdgesOfTerms {
    private static final int NONE = WinterRoad.NONE;

    private EdgesOfTerms() {
    }

    static void run() {
        calls();
        lengthOfTheRoad();
        mostThings();
        gatesOfARoad();
        gateIsClosed();
        baysOfARoad();
        depotsOfARoad();
        oneOfAKindAtAKilometer();
        mostConvoysAndVehicles();
        numbersOfAVehicle();
        whereAVehicleIs();
        mostInAConvoy();
        state();
        actionWithoutChange();
        rememberedAhead();
        fourteen();
        noActions();
        indices();
        arguments();
        firstNamedException();
        refusedCallsChangeNothing();
        looksChangeNothing();
        none();
    }

    private static void calls() {
        Check.sentence("What it is", "An object is used for at most 512 calls after it has been made");
        WinterRoad x = new WinterRoad();
        x.addConvoy();
        x.addVehicle(0, 1, 1, 20, 19);
        for (int call = 3; call <= 511; call++) {
            Check.due("hold, call " + call, x.hold(0, call % 24), call == 3 ? 0 : (call - 1) % 24);
        }
        Check.due("held in call 512", x.convoy(0, 3), 511 % 24);
    }

    // ---- the road

    private static void lengthOfTheRoad() {
        Check.sentence("Terms", "The road has 10 to 60 kilometers, at first 20.");
        Check.due("at first", new WinterRoad().about(0), 20);
        Check.due("shortest", Check.road("W10").about(0), 10);
        Check.due("longest", Check.road("W60").about(0), 60);
        Check.badState("shorter", () -> Check.road("W09").about(0));
        Check.badState("longer", () -> Check.road("W61").about(0));
    }

    private static void mostThings() {
        Check.sentence("Terms", "There are at most 4 gates, 6 bays and 4 depots, each kind numbered from 0 in the"
                + " order in which they were added.");
        WinterRoad x = new WinterRoad();
        for (int i = 0; i < 4; i++) {
            Check.due("gate", x.addGate(9 - i, 2, 0, 0), i);
            Check.due("depot", x.addDepot(9 - i, 0), i);
        }
        for (int i = 0; i < 6; i++) {
            Check.due("bay", x.addBay(9 - i, 1), i);
        }
        Check.badState("a fifth gate", () -> x.addGate(10, 2, 0, 0));
        Check.badState("a seventh bay", () -> x.addBay(10, 1));
        Check.badState("a fifth depot", () -> x.addDepot(10, 0));
        Check.due("kilometers of the first", x.gate(0, 0) + x.bay(0, 0) + x.depot(0, 0), 27);
        Check.due("kilometers of the last", x.gate(3, 0) + x.bay(5, 0) + x.depot(3, 0), 16);
    }

    private static void gatesOfARoad() {
        Check.sentence("Terms", "A gate is at a kilometer from 1 to the length of the road less 1, has a period of"
                + " 2 to 24 hours, a closed time of 0 to the period less 1, and a phase of 0 to the period less 1");
        WinterRoad x = Check.road("W10");
        Check.badArgument("kilometer 0", () -> x.addGate(0, 2, 0, 0));
        Check.badArgument("kilometer 10", () -> x.addGate(10, 2, 0, 0));
        Check.badArgument("period 1", () -> x.addGate(1, 1, 0, 0));
        Check.badArgument("period 25", () -> x.addGate(1, 25, 0, 0));
        Check.badArgument("closed -1", () -> x.addGate(1, 2, -1, 0));
        Check.badArgument("closed 2 of 2", () -> x.addGate(1, 2, 2, 0));
        Check.badArgument("closed 24 of 24", () -> x.addGate(1, 24, 24, 0));
        Check.badArgument("phase -1", () -> x.addGate(1, 2, 0, -1));
        Check.badArgument("phase 2 of 2", () -> x.addGate(1, 2, 0, 2));
        Check.badArgument("phase 24 of 24", () -> x.addGate(1, 24, 0, 24));
        Check.due("least", x.addGate(1, 2, 0, 0), 0);
        Check.due("most of 2", x.addGate(2, 2, 1, 1), 1);
        Check.due("most", x.addGate(9, 24, 23, 23), 2);
    }

    private static void gateIsClosed() {
        Check.sentence("Terms", "in the hour h it is closed if (h + phase) % period is less than the closed time.");
        WinterRoad x = Check.road("W10g01050204g02020101g03240023g04242323");
        int[] closed = {0, 1, 1, 0, 0, 0, 1, 1, 0, 0, 0};
        for (int h = 0; h < closed.length; h++) {
            Check.due("2 of 5 with phase 4, hour " + h, x.gate(0, 4), closed[h]);
            Check.due("1 of 2 with phase 1, hour " + h, x.gate(1, 4), h % 2);
            Check.due("0 of 24, hour " + h, x.gate(2, 4), 0);
            Check.due("23 of 24 with phase 23, hour " + h, x.gate(3, 4), h == 0 ? 0 : 1);
            x.pass(1);
        }
        x.pass(99);
        x.pass(99);
        x.pass(31);
        Check.due("hour 240", x.about(1), 240);
        Check.due("240 + 4 leaves 4 of 5", x.gate(0, 4), 0);
        Check.due("240 + 23 leaves 23 of 24", x.gate(3, 4), 0);
        x.pass(1);
        Check.due("241 + 4 leaves 0 of 5", x.gate(0, 4), 1);
    }

    private static void baysOfARoad() {
        Check.sentence("Terms", "A bay is at a kilometer from 1 to the length less 1, and has 1 to 6 places.");
        WinterRoad x = Check.road("W10");
        Check.badArgument("kilometer 0", () -> x.addBay(0, 1));
        Check.badArgument("kilometer 10", () -> x.addBay(10, 1));
        Check.badArgument("0 places", () -> x.addBay(1, 0));
        Check.badArgument("7 places", () -> x.addBay(1, 7));
        Check.due("least", x.addBay(1, 1), 0);
        Check.due("most", x.addBay(9, 6), 1);
    }

    private static void depotsOfARoad() {
        Check.sentence("Terms", "A depot is at a kilometer from 0 to the length, and has 0 to 999 liters.");
        WinterRoad x = Check.road("W10");
        Check.badArgument("kilometer -1", () -> x.addDepot(-1, 0));
        Check.badArgument("kilometer 11", () -> x.addDepot(11, 0));
        Check.badArgument("-1 liters", () -> x.addDepot(0, -1));
        Check.badArgument("1000 liters", () -> x.addDepot(0, 1000));
        Check.due("least", x.addDepot(0, 0), 0);
        Check.due("most", x.addDepot(10, 999), 1);
        Check.badState("more than 999", () -> x.supply(1, 1));
    }

    private static void oneOfAKindAtAKilometer() {
        Check.sentence("Terms", "No two gates are at one kilometer, nor two bays, nor two depots.");
        WinterRoad x = new WinterRoad();
        Check.due("gate", x.addGate(5, 2, 0, 0), 0);
        Check.due("bay where a gate is", x.addBay(5, 1), 0);
        Check.due("depot where both are", x.addDepot(5, 0), 0);
        Check.badState("gate again", () -> x.addGate(5, 24, 1, 1));
        Check.badState("bay again", () -> x.addBay(5, 6));
        Check.badState("depot again", () -> x.addDepot(5, 999));
        Check.due("gate beside it", x.addGate(6, 2, 0, 0), 1);
        Check.badState("at the second gate's kilometer", () -> x.addGate(6, 2, 0, 0));
    }

    // ---- vehicles and convoys

    private static void mostConvoysAndVehicles() {
        Check.sentence("Terms", "There are at most 4 convoys, numbered from 0, which begin at the kilometer 0, and"
                + " at most 16 vehicles, numbered from 0.");
        WinterRoad x = new WinterRoad();
        for (int c = 0; c < 4; c++) {
            Check.due("convoy", x.addConvoy(), c);
            Check.due("its kilometer", x.convoy(c, 0), 0);
        }
        Check.badState("a fifth", () -> x.addConvoy());
        for (int v = 0; v < 16; v++) {
            Check.due("vehicle", x.addVehicle(v % 4, 1, 1, 20, 0), v);
        }
        for (int c = 0; c < 4; c++) {
            int convoy = c;
            Check.badState("a seventeenth, in " + c, () -> x.addVehicle(convoy, 1, 1, 20, 0));
        }
    }

    private static void numbersOfAVehicle() {
        Check.sentence("Terms", "A vehicle has a speed of 1 to 9 kilometers an hour, a use of 1 to 4 liters a"
                + " kilometer, a tank for 20 to 99 liters, and some liters in it.");
        WinterRoad x = Check.road("W10c");
        Check.badArgument("speed 0", () -> x.addVehicle(0, 0, 1, 20, 0));
        Check.badArgument("speed 10", () -> x.addVehicle(0, 10, 1, 20, 0));
        Check.badArgument("use 0", () -> x.addVehicle(0, 1, 0, 20, 0));
        Check.badArgument("use 5", () -> x.addVehicle(0, 1, 5, 20, 0));
        Check.badArgument("tank 19", () -> x.addVehicle(0, 1, 1, 19, 0));
        Check.badArgument("tank 100", () -> x.addVehicle(0, 1, 1, 100, 0));
        Check.badArgument("-1 liters", () -> x.addVehicle(0, 1, 1, 20, -1));
        Check.badArgument("21 liters of 20", () -> x.addVehicle(0, 1, 1, 20, 21));
        Check.badArgument("100 liters of 99", () -> x.addVehicle(0, 1, 1, 99, 100));
        Check.due("least", x.addVehicle(0, 1, 1, 20, 0), 0);
        Check.due("most", x.addVehicle(0, 9, 4, 99, 99), 1);
        Check.due("full", x.addVehicle(0, 1, 1, 20, 20), 2);
    }

    private static void whereAVehicleIs() {
        Check.sentence("Terms", "It is in a convoy (at a place in its order), in a bay (likewise), or has arrived.");
        WinterRoad x = Check.road("W10b011cv912001v919999");
        x.pass(1);
        Check.dueEach("in bay 0, as its first", new int[] {x.vehicle(0, 4), x.vehicle(0, 5), x.bay(0, 3)}, 1, 0, 0);
        Check.dueEach("in convoy 0, its first", new int[] {x.vehicle(1, 4), x.vehicle(1, 5), x.member(0, 0)}, 0, 0, 1);
        x.pass(1);
        Check.dueEach("arrived", new int[] {x.vehicle(1, 4), x.vehicle(1, 5), x.member(0, 0)}, 2, NONE, NONE);
        Check.due("arrived", x.about(7), 1);
    }

    private static void mostInAConvoy() {
        Check.sentence("Terms", "A convoy has at most 8 vehicles; it may be held for some hours.");
        WinterRoad x = Check.road("W10cc");
        for (int v = 0; v < 8; v++) {
            x.addVehicle(0, 1, 1, 20, 0);
        }
        Check.badState("a ninth", () -> x.addVehicle(0, 1, 1, 20, 0));
        Check.due("in the other", x.addVehicle(1, 1, 1, 20, 0), 8);
        Check.due("vehicles", x.convoy(0, 1), 8);
    }

    // ---- actions and undo

    private static void state() {
        Check.sentence("Terms", "The methods in the section \"actions\" change the state, which consists of"
                + " everything but the text and the save slots.");
        WinterRoad x = Check.road("W10cv119999");
        x.pass(1);
        x.save(0);
        x.append('c');
        x.undo();
        Check.due("undo leaves the text", x.clearText(), 12);
        Check.due("and the save slot", x.restore(0), 1);
        Check.due("restore leaves the text", x.append('W'), 1);
        x.save(1);
        x.restore(0);
        Check.due("and the other slot", x.restore(1), 1);
    }

    private static void actionWithoutChange() {
        Check.sentence("Terms", "Each call of one of them that does not throw an exception is an action, also if"
                + " nothing becomes different (undo is none).");
        WinterRoad x = Check.road("W10c");
        x.hold(0, 0);
        x.hold(0, 0);
        Check.due("undo", x.undo(), 1);
        Check.due("undo is not taken back by undo", x.undo(), 0);
        Check.badState("nothing more", () -> x.undo());
        WinterRoad y = new WinterRoad();
        y.addGate(1, 2, 0, 0);
        y.addBay(1, 1);
        y.addDepot(1, 0);
        y.addConvoy();
        y.addVehicle(0, 1, 1, 20, 0);
        y.hold(0, 1);
        y.supply(0, 1);
        y.pass(1);
        Check.due("eight methods", y.undo(), 7);
    }

    private static void rememberedAhead() {
        Check.sentence("Terms", "Before each action, the state is remembered.");
        WinterRoad x = Check.road("W10g05030100b011d00030cv912001v919999cv119930");
        String[] ahead = new String[3];
        ahead[0] = Look.at(x);
        x.pass(1);
        ahead[1] = Look.at(x);
        x.hold(1, 7);
        x.undo();
        Check.due("ahead of hold", Look.at(x), ahead[1]);
        x.undo();
        Check.due("ahead of pass", Look.at(x), ahead[0]);
    }

    private static void fourteen() {
        Check.sentence("Terms", "At most 14 states are remembered; when one more is remembered, the oldest one is"
                + " forgotten.");
        for (int actions : new int[] {13, 14, 15, 29}) {
            WinterRoad x = Check.road("W10");
            for (int i = 0; i < actions; i++) {
                x.pass(1);
            }
            int most = Math.min(14, actions);
            for (int left = most - 1; left >= 0; left--) {
                Check.due("undo behind " + actions, x.undo(), left);
                Check.due("hours then", x.about(1), actions - most + left);
            }
            Check.badState("one more behind " + actions, () -> x.undo());
        }
    }

    private static void noActions() {
        Check.sentence("Terms", "load and restore are not actions.");
        WinterRoad x = Check.road("W10");
        Check.badState("undo of load", () -> x.undo());
        x.save(0);
        x.restore(0);
        Check.badState("undo of restore", () -> x.undo());
    }

    // ---- exceptions

    private static void indices() {
        Check.sentence("Terms", "IndexOutOfBoundsException means that a convoy, a vehicle, a gate, a bay or a depot"
                + " does not exist, or that a save slot is not 0 or 1.");
        WinterRoad x = Check.road("W10g01020000b011d00000cv112000");
        for (int i : new int[] {Integer.MIN_VALUE, -1, 1, 2, 4, 16, 1 << 30, Integer.MAX_VALUE}) {
            Check.badIndex("convoy " + i, () -> x.convoy(i, 0));
            Check.badIndex("vehicle " + i, () -> x.vehicle(i, 0));
            Check.badIndex("gate " + i, () -> x.gate(i, 0));
            Check.badIndex("bay " + i, () -> x.bay(i, 0));
            Check.badIndex("depot " + i, () -> x.depot(i, 0));
            if (i != 1) {
                Check.badIndex("save slot " + i, () -> x.save(i));
                Check.badIndex("restore slot " + i, () -> x.restore(i));
            }
        }
    }

    private static void arguments() {
        Check.sentence("Terms", "IllegalArgumentException means that another argument is out of its range.");
        WinterRoad x = Check.road("W10g01020000b011d00000cv112000");
        for (int i : new int[] {Integer.MIN_VALUE, -1, 1000, 1 << 30, Integer.MAX_VALUE}) {
            Check.badArgument("append", () -> x.append(i));
            Check.badArgument("about", () -> x.about(i));
            Check.badArgument("convoy", () -> x.convoy(0, i));
            Check.badArgument("vehicle", () -> x.vehicle(0, i));
            Check.badArgument("gate", () -> x.gate(0, i));
            Check.badArgument("bay", () -> x.bay(0, i));
            Check.badArgument("depot", () -> x.depot(0, i));
            Check.badArgument("gate's kilometer", () -> x.addGate(i, 2, 0, 0));
            Check.badArgument("gate's period", () -> x.addGate(2, i, 0, 0));
            Check.badArgument("gate's closed time", () -> x.addGate(2, 2, i, 0));
            Check.badArgument("gate's phase", () -> x.addGate(2, 2, 0, i));
            Check.badArgument("bay's kilometer", () -> x.addBay(i, 1));
            Check.badArgument("bay's places", () -> x.addBay(2, i));
            Check.badArgument("depot's kilometer", () -> x.addDepot(i, 1));
            Check.badArgument("depot's liters", () -> x.addDepot(1, i));
            Check.badArgument("speed", () -> x.addVehicle(0, i, 1, 20, 0));
            Check.badArgument("use", () -> x.addVehicle(0, 1, i, 20, 0));
            Check.badArgument("tank", () -> x.addVehicle(0, 1, 1, i, 0));
            Check.badArgument("liters", () -> x.addVehicle(0, 1, 1, 20, i));
            Check.badArgument("hold", () -> x.hold(0, i));
            Check.badArgument("supply", () -> x.supply(0, i));
            Check.badArgument("pass", () -> x.pass(i));
            Check.badArgument("runScript", () -> x.runScript(i, 0));
            Check.badArgument("simulate", () -> x.simulate(0, i));
        }
        Check.badArgument("member", () -> x.member(0, -1));
    }

    private static void firstNamedException() {
        Check.sentence("Terms", "If several exceptions apply to a call, the one that its description names first is"
                + " thrown.");
        WinterRoad x = Check.write(new WinterRoad(), "W".repeat(140));
        Check.badArgument("append(256) to 140", () -> x.append(256));
        for (int i = 1; i <= 4; i++) {
            x.addGate(i, 2, 0, 0);
            x.addDepot(i, 999);
            x.addConvoy();
        }
        for (int i = 1; i <= 6; i++) {
            x.addBay(i, 1);
        }
        Check.badIndex("convoy(4, 8)", () -> x.convoy(4, 8));
        Check.badIndex("member(4, -1)", () -> x.member(4, -1));
        Check.badIndex("vehicle(0, 7)", () -> x.vehicle(0, 7));
        Check.badIndex("gate(4, 6)", () -> x.gate(4, 6));
        Check.badIndex("bay(6, 4)", () -> x.bay(6, 4));
        Check.badIndex("depot(4, 2)", () -> x.depot(4, 2));
        Check.badArgument("a fifth gate at 20", () -> x.addGate(20, 2, 0, 0));
        Check.badArgument("a fifth gate at 1 with phase 2", () -> x.addGate(1, 2, 0, 2));
        Check.badArgument("a seventh bay at 1 with 7 places", () -> x.addBay(1, 7));
        Check.badArgument("a fifth depot at 1 with 1000 liters", () -> x.addDepot(1, 1000));
        Check.badIndex("addVehicle(4, 0, ..)", () -> x.addVehicle(4, 0, 1, 20, 0));
        Check.badIndex("hold(4, 24)", () -> x.hold(4, 24));
        Check.badIndex("supply(4, 0)", () -> x.supply(4, 0));
        Check.badArgument("supply of 501 to 999", () -> x.supply(0, 501));
        Check.badIndex("restore(2) of nothing", () -> x.restore(2));
        for (int v = 0; v < 16; v++) {
            x.addVehicle(v / 8, 1, 1, 20, 0);
        }
        Check.badIndex("a seventeenth in convoy -1", () -> x.addVehicle(-1, 1, 1, 20, 0));
        Check.badArgument("a seventeenth with 21 liters", () -> x.addVehicle(0, 1, 1, 20, 21));
    }

    /** A full road: nothing can be added, and one action is remembered. */
    private static WinterRoad fullRoad() {
        String eight = "v112010".repeat(8);
        WinterRoad x = Check.road("W10d00999cc" + eight + "c" + eight + "c");
        x.save(1);
        x.hold(1, 2);
        return x;
    }

    private static void refusedCallsChangeNothing() {
        Check.sentence("Terms", "A call that throws an exception changes nothing.");
        WinterRoad x = fullRoad();
        Check.badArgument("append", () -> x.append(-1));
        Check.badArgument("addGate", () -> x.addGate(1, 2, 2, 0));
        Check.badArgument("addBay", () -> x.addBay(1, 0));
        Check.badArgument("addDepot", () -> x.addDepot(1, 1000));
        Check.badState("addDepot at 0", () -> x.addDepot(0, 1));
        Check.badState("addConvoy", () -> x.addConvoy());
        Check.badState("addVehicle, 16", () -> x.addVehicle(0, 1, 1, 20, 0));
        Check.badState("addVehicle, 8", () -> x.addVehicle(1, 1, 1, 20, 0));
        Check.badArgument("addVehicle", () -> x.addVehicle(0, 1, 1, 20, 21));
        Check.badIndex("hold", () -> x.hold(4, 1));
        Check.badArgument("hold", () -> x.hold(1, 24));
        Check.badState("supply", () -> x.supply(0, 1));
        Check.badArgument("pass", () -> x.pass(100));
        Check.badIndex("save", () -> x.save(2));
        Check.badIndex("restore", () -> x.restore(-1));
        Check.badState("restore", () -> x.restore(0));
        x.append('x');
        Check.badState("load", () -> x.load());
        Check.due("all", Look.at(x), Look.at(fullRoad()));
        Check.due("the text", x.clearText(), 3 + 6 + 4 + 112 + 1);
        Check.due("one action is remembered", x.undo(), 0);
        Check.due("held ahead of it", x.convoy(1, 3), 0);
        Check.badState("undo", () -> x.undo());
        Check.due("held then", x.convoy(1, 3), 0);
        Check.due("slot 1", x.restore(1), 0);
    }

    private static void looksChangeNothing() {
        Check.sentence("Terms", "these and all following methods up to the save slots change nothing.");
        String text = "W20g09050200b012d00005cv942005v919999cv312008";
        WinterRoad x = Check.road(text);
        x.pass(1);
        x.save(0);
        x.hold(1, 2);
        String before = Look.at(x);
        for (int c = 0; c < 2; c++) {
            x.arrives(c);
            x.leaves(c);
            x.bestHold(c);
        }
        x.lacks(0);
        x.runScript(3, 100992000530009L);
        x.simulate(5, 99);
        x.errorPosition();
        Check.due("all", Look.at(x), before);
        Check.due("the text", x.clearText(), text.length());
        Check.due("two actions are remembered", x.undo(), 1);
        Check.due("hours of the save slot", x.restore(0), 1);
    }

    private static void none() {
        Check.sentence("Terms", "The constants: `NONE = -9`: There is no such result.");
        Check.due("NONE", WinterRoad.NONE, -9);
        Check.due("a member that is not", Check.road("W10c").member(0, 0), -9);
    }
}
