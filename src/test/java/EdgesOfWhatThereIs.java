/** The edges that promises 1 and 6 to 12 name, sentence by sentence. */
final class EdgesOfWhatThereIs {
    private static final int NONE = WinterRoad.NONE;
    private static final int[] BEYOND = {Integer.MIN_VALUE, -1, 2, 4, 16, 1 << 29, Integer.MAX_VALUE};
    /** Two of each kind. */
    private static final String TWO = "W20g05240500g09240623b012b021d00010d20999cv912001v919999cv119950";

    private EdgesOfWhatThereIs() {
    }

    static void run() {
        newObject();
        about();
        aboutOutOfRange();
        convoy();
        convoyHoursWaited();
        convoyRefused();
        member();
        memberRefused();
        vehicle();
        vehicleRefused();
        gate();
        gateClosedFor();
        gateRefused();
        bay();
        bayRefused();
        depot();
        depotRefused();
    }

    /** Each what from 0 to the last one must be answered, the ones around them refused. */
    private interface Ask {
        int what(int what);
    }

    private static void outOfRange(String name, Ask ask, int last) {
        for (int what : new int[] {Integer.MIN_VALUE, -9, -1, last + 1, last + 2, 1 << 16, Integer.MAX_VALUE}) {
            Check.badArgument(name + " " + what, () -> ask.what(what));
        }
        Check.due(name + " 0 is answered", ask.what(0) >= 0 ? 1 : 0, 1);
        Check.due(name + " " + last + " is answered", ask.what(last) >= NONE ? 1 : 0, 1);
    }

    private static int[] each(Ask ask, int last) {
        int[] told = new int[last + 1];
        for (int what = 0; what <= last; what++) {
            told[what] = ask.what(what);
        }
        return told;
    }

    private static void newObject() {
        Check.sentence("Promise 1", "`WinterRoad()`: Creates a road of 20 kilometers with nothing on it.");
        WinterRoad x = new WinterRoad();
        Check.dueEach("about", each(x::about, 11), 20, 0, 0, 0, 0, 0, 0, 0, 0, 0, 0, 0);
        Check.due("text", x.clearText(), 0);
        Check.badState("undo", () -> x.undo());
        Check.badState("restore(0)", () -> x.restore(0));
        Check.badState("restore(1)", () -> x.restore(1));
        Check.due("a gate at 19", x.addGate(19, 2, 0, 0), 0);
        Check.badArgument("a gate at 20", () -> x.addGate(20, 2, 0, 0));
        Check.due("another object has none", new WinterRoad().about(2), 0);
    }

    // ---- about

    private static void about() {
        Check.sentence("Promise 6", "- `what`: 0: the length of the road; 1: the hours that went by; 2: the number"
                + " of gates; 3: of bays; 4: of depots; 5: of convoys; 6: of vehicles; 7: of those that arrived; 8:"
                + " of those in bays; 9: the liters in all tanks; 10: in all depots; 11: burnt so far");
        WinterRoad x = Check.road("W60g01020000b011b022b033d00999d60999cccv919999v912001cv119999");
        Check.dueEach("ahead of hour 0", each(x::about, 11), 60, 0, 1, 3, 2, 4, 3, 0, 0, 199, 1998, 0);
        x = Check.road("W10b011b022b033d00000d01999d10001ccv919999v912001cv219921");
        x.pass(2);
        // Vehicle 1 was left at 1 and got 10 of 20 from vehicle 2; both are at 4 with 7 each, and 0 arrived.
        Check.dueEach("behind 2 hours", each(x::about, 11), 10, 2, 0, 3, 3, 3, 3, 1, 0, 89 + 7 + 7, 1000, 10 + 4 + 4);
        x = Check.road("W10b011cv912001v119999");
        x.pass(2);
        Check.dueEach("one in a bay", each(x::about, 11), 10, 2, 0, 1, 0, 1, 2, 0, 1, 97, 0, 3);
        x.pass(97);
        Check.due("hours", x.about(1), 99);
    }

    private static void aboutOutOfRange() {
        Check.sentence("Promise 6", "Throws `IllegalArgumentException` if what is not 0 to 11");
        outOfRange("about", Check.road(TWO)::about, 11);
        outOfRange("about, new", new WinterRoad()::about, 11);
    }

    // ---- convoy

    private static void convoy() {
        Check.sentence("Promise 7", "- `what`: 0: its kilometer; 1: the number of its vehicles (0 behind its"
                + " arrival); 2: the speed of its slowest vehicle (0 without vehicles); 3: for how many hours it is"
                + " held; 4:");
        WinterRoad x = Check.road("W10cv929950v319920c");
        Check.dueEach("at the start", each(what -> x.convoy(0, what), 7), 0, 2, 3, 0, 0, 0, 70, 0);
        Check.dueEach("without vehicles", each(what -> x.convoy(1, what), 7), 0, 0, 0, 0, 0, 0, 0, 0);
        x.hold(1, 23);
        Check.due("without vehicles, held", x.convoy(1, 3), 23);
        x.pass(3);
        Check.dueEach("1 kilometer ahead", each(what -> x.convoy(0, what), 7), 9, 2, 3, 0, 0, 0, 43, 0);
        x.pass(1);
        Check.dueEach("arrived", each(what -> x.convoy(0, what), 7), 10, 0, 0, 0, 0, 0, 0, 1);
    }

    private static void convoyHoursWaited() {
        Check.sentence("Promise 7", "4: the hours in which it waited at a gate so far (also behind some"
                + " kilometers); 5: the hours in which it stood so far (likewise); 6: the liters in its tanks; 7: 1"
                + " if it has come to the end of the road, otherwise 0");
        WinterRoad x = Check.road("W10g03030200cv519903");
        x.pass(1);
        Check.dueEach("behind 2 kilometers, hour 0", each(what -> x.convoy(0, what), 7), 2, 1, 5, 0, 1, 0, 1, 0);
        x.pass(1);
        Check.dueEach("hour 1", each(what -> x.convoy(0, what), 7), 2, 1, 5, 0, 2, 0, 1, 0);
        x.pass(1);
        Check.dueEach("stood behind 1 kilometer, hour 2", each(what -> x.convoy(0, what), 7), 3, 1, 5, 0, 2, 1, 0, 0);
        x.pass(10);
        Check.dueEach("stood on", each(what -> x.convoy(0, what), 7), 3, 1, 5, 0, 2, 11, 0, 0);
    }

    private static void convoyRefused() {
        WinterRoad x = Check.road(TWO);
        Check.sentence("Promise 7", "Throws `IndexOutOfBoundsException` if there is no such convoy");
        for (int c : BEYOND) {
            Check.badIndex("convoy(" + c + ", 0)", () -> x.convoy(c, 0));
            Check.badIndex("convoy(" + c + ", 8)", () -> x.convoy(c, 8));
        }
        Check.badIndex("of none", () -> new WinterRoad().convoy(0, 0));
        Check.sentence("Promise 7", "Throws `IllegalArgumentException` if what is not 0 to 7");
        outOfRange("convoy(1, ..)", what -> x.convoy(1, what), 7);
    }

    // ---- member

    private static void member() {
        Check.sentence("Promise 8", "Returns the vehicle; NONE if there is no such place.");
        WinterRoad x = Check.road("W10c" + "v919999".repeat(8) + "cv919999c");
        Check.due("place 0", x.member(0, 0), 0);
        Check.due("place 7", x.member(0, 7), 7);
        Check.due("place 8 of 8", x.member(0, 8), NONE);
        Check.due("place 0 of 1", x.member(1, 0), 8);
        Check.due("place 1 of 1", x.member(1, 1), NONE);
        Check.due("place 0 of 0", x.member(2, 0), NONE);
        Check.due("place MAX", x.member(0, Integer.MAX_VALUE), NONE);
        Check.due("place 1 << 29", x.member(0, 1 << 29), NONE);
        x.pass(2);
        Check.due("place 0 behind the arrival", x.member(0, 0), NONE);
    }

    private static void memberRefused() {
        WinterRoad x = Check.road(TWO);
        Check.sentence("Promise 8", "Throws `IndexOutOfBoundsException` if there is no such convoy");
        for (int c : BEYOND) {
            Check.badIndex("member(" + c + ", 0)", () -> x.member(c, 0));
            Check.badIndex("member(" + c + ", -1)", () -> x.member(c, -1));
        }
        Check.badIndex("of none", () -> new WinterRoad().member(0, 0));
        Check.sentence("Promise 8", "Throws `IllegalArgumentException` if i is negative");
        Check.badArgument("member(0, -1)", () -> x.member(0, -1));
        Check.badArgument("member(0, -9)", () -> x.member(0, -9));
        Check.badArgument("member(1, MIN)", () -> x.member(1, Integer.MIN_VALUE));
        Check.sentence("Promise 8", "- `i`: place in its order, 0 or more");
        Check.due("member(1, 0)", x.member(1, 0), 2);
    }

    // ---- vehicle

    private static void vehicle() {
        Check.sentence("Promise 9", "- `what`: 0: its speed; 1: its use; 2: its tank; 3: its liters; 4: where it"
                + " is: 0: in a convoy; 1: in a bay; 2: it has arrived; 5: the number of the convoy or of the bay"
                + " in which it is (NONE if it has arrived); 6: the liters that it burnt so far");
        WinterRoad x = Check.road("W10b021b011ccv922103v849999");
        Check.dueEach("in convoy 1", each(what -> x.vehicle(0, what), 6), 9, 2, 21, 3, 0, 1, 0);
        x.pass(1);
        Check.dueEach("in bay 1", each(what -> x.vehicle(0, what), 6), 9, 2, 21, 1, 1, 1, 2);
        Check.dueEach("on its way", each(what -> x.vehicle(1, what), 6), 8, 4, 99, 99 - 32, 0, 1, 32);
        x.pass(1);
        Check.dueEach("arrived", each(what -> x.vehicle(1, what), 6), 8, 4, 99, 99 - 40, 2, NONE, 40);
        x.pass(9);
        Check.dueEach("still in bay 1", each(what -> x.vehicle(0, what), 6), 9, 2, 21, 1, 1, 1, 2);
    }

    private static void vehicleRefused() {
        WinterRoad x = Check.road("W10cv919999cv119950");
        Check.sentence("Promise 9", "Throws `IndexOutOfBoundsException` if there is no such vehicle");
        for (int v : BEYOND) {
            Check.badIndex("vehicle(" + v + ", 0)", () -> x.vehicle(v, 0));
            Check.badIndex("vehicle(" + v + ", 7)", () -> x.vehicle(v, 7));
        }
        Check.badIndex("of none", () -> new WinterRoad().vehicle(0, 0));
        Check.sentence("Promise 9", "Throws `IllegalArgumentException` if what is not 0 to 6");
        outOfRange("vehicle(1, ..)", what -> x.vehicle(1, what), 6);
    }

    // ---- gate

    private static void gate() {
        Check.sentence("Promise 10", "- `what`: 0: its kilometer; 1: its period; 2: its closed time; 3: its phase;"
                + " 4: 1 if it is closed in the hour that goes by next, otherwise 0; 5:");
        WinterRoad x = Check.road("W60g59242322g01020001");
        Check.dueEach("gate 0", each(what -> x.gate(0, what), 5), 59, 24, 23, 22, 1, 1);
        Check.dueEach("gate 1", each(what -> x.gate(1, what), 5), 1, 2, 0, 1, 0, 0);
        x.pass(1);
        Check.dueEach("open in hour 1", each(what -> x.gate(0, what), 5), 59, 24, 23, 22, 0, 0);
        x.pass(1);
        Check.dueEach("closed in hour 2", each(what -> x.gate(0, what), 5), 59, 24, 23, 22, 1, 23);
    }

    private static void gateClosedFor() {
        Check.sentence("Promise 10", "5: how many hours from then on it is closed without a break (0 if it is open)");
        WinterRoad x = Check.road("W10g01040301g02020101g03240000");
        int[] closedFor = {2, 1, 0, 3, 2, 1, 0, 3};
        for (int h = 0; h < closedFor.length; h++) {
            Check.due("3 of 4 with phase 1, hour " + h, x.gate(0, 5), closedFor[h]);
            Check.due("1 of 2 with phase 1, hour " + h, x.gate(1, 5), h % 2);
            Check.due("0 of 24, hour " + h, x.gate(2, 5), 0);
            x.pass(1);
        }
    }

    private static void gateRefused() {
        WinterRoad x = Check.road(TWO);
        Check.sentence("Promise 10", "Throws `IndexOutOfBoundsException` if there is no such gate");
        for (int g : BEYOND) {
            Check.badIndex("gate(" + g + ", 0)", () -> x.gate(g, 0));
            Check.badIndex("gate(" + g + ", 5)", () -> x.gate(g, 5));
            Check.badIndex("gate(" + g + ", 6)", () -> x.gate(g, 6));
        }
        Check.badIndex("of none", () -> new WinterRoad().gate(0, 5));
        Check.sentence("Promise 10", "Throws `IllegalArgumentException` if what is not 0 to 5");
        outOfRange("gate(1, ..)", what -> x.gate(1, what), 5);
    }

    // ---- bay

    private static void bay() {
        Check.sentence("Promise 11", "- `what`: 0: its kilometer; 1: its places; 2: the number of vehicles in it;"
                + " 3: the first vehicle in it (NONE without one)");
        WinterRoad x = Check.road("W60b596b016c" + "v912001".repeat(6) + "v919999");
        Check.dueEach("bay 0, empty", each(what -> x.bay(0, what), 3), 59, 6, 0, NONE);
        Check.dueEach("bay 1, empty", each(what -> x.bay(1, what), 3), 1, 6, 0, NONE);
        x.pass(1);
        Check.dueEach("bay 1, full", each(what -> x.bay(1, what), 3), 1, 6, 6, 0);
        x.pass(1);
        Check.dueEach("bay 0, empty then", each(what -> x.bay(0, what), 3), 59, 6, 0, NONE);
        WinterRoad y = Check.road("W10b011cv942005v919999cv119999");
        y.pass(1);
        Check.dueEach("empty again", each(what -> y.bay(0, what), 3), 1, 1, 0, NONE);
    }

    private static void bayRefused() {
        WinterRoad x = Check.road(TWO);
        Check.sentence("Promise 11", "Throws `IndexOutOfBoundsException` if there is no such bay");
        for (int b : BEYOND) {
            Check.badIndex("bay(" + b + ", 0)", () -> x.bay(b, 0));
            Check.badIndex("bay(" + b + ", 3)", () -> x.bay(b, 3));
            Check.badIndex("bay(" + b + ", 4)", () -> x.bay(b, 4));
        }
        Check.badIndex("of none", () -> new WinterRoad().bay(0, 2));
        Check.sentence("Promise 11", "Throws `IllegalArgumentException` if what is not 0 to 3");
        outOfRange("bay(1, ..)", what -> x.bay(1, what), 3);
    }

    // ---- depot

    private static void depot() {
        Check.sentence("Promise 12", "- `what`: 0: its kilometer; 1: its liters");
        WinterRoad x = Check.road("W60d60999d00000");
        Check.dueEach("depot 0", each(what -> x.depot(0, what), 1), 60, 999);
        Check.dueEach("depot 1", each(what -> x.depot(1, what), 1), 0, 0);
        x.supply(1, 7);
        Check.dueEach("depot 1 then", each(what -> x.depot(1, what), 1), 0, 7);
    }

    private static void depotRefused() {
        WinterRoad x = Check.road("W60d60999d00000");
        Check.sentence("Promise 12", "Throws `IndexOutOfBoundsException` if there is no such depot");
        for (int d : BEYOND) {
            Check.badIndex("depot(" + d + ", 0)", () -> x.depot(d, 0));
            Check.badIndex("depot(" + d + ", 2)", () -> x.depot(d, 2));
        }
        Check.badIndex("of none", () -> new WinterRoad().depot(0, 0));
        Check.sentence("Promise 12", "Throws `IllegalArgumentException` if what is not 0 or 1");
        outOfRange("depot(1, ..)", what -> x.depot(1, what), 1);
    }
}
