/** Promises 2 to 5: append, clearText, errorPosition, load. */
public final class TextTest {
    private static final int NONE = WinterRoad.NONE;

    public static void main(String[] args) {
        appends();
        clears();
        findsErrors();
        findsErrorsOfNumbers();
        findsTooMany();
        findsTakenKilometers();
        loads();
        loadForgets();
        loadLeavesNothing();
        Check.end();
    }

    private static void appends() {
        WinterRoad x = new WinterRoad();
        Check.badArgument("append(-1)", () -> x.append(-1));
        Check.badArgument("append(256)", () -> x.append(256));
        for (int i = 1; i <= 140; i++) {
            Check.due("append, sign " + i, x.append(i == 1 ? 0 : 255), i);
        }
        Check.badState("append to 140", () -> x.append('W'));
        Check.badArgument("append(256) to 140", () -> x.append(256));
        Check.due("clearText of 140", x.clearText(), 140);
    }

    private static void clears() {
        WinterRoad x = new WinterRoad();
        Check.due("clearText, new", x.clearText(), 0);
        Check.write(x, "W2");
        Check.due("clearText", x.clearText(), 2);
        Check.due("clearText again", x.clearText(), 0);
        Check.due("append behind it", x.append('W'), 1);
    }

    private static void error(String text, int want) {
        WinterRoad x = Check.write(new WinterRoad(), text);
        Check.due("errorPosition of " + text, x.errorPosition(), want);
        if (want == NONE) {
            return;
        }
        Check.badState("load of " + text, () -> x.load());
        Check.due("length behind the load of " + text, x.about(0), 20);
    }

    private static void findsErrors() {
        error("", 0);
        error("w10", 0);
        error(" W10", 0);
        error("W", 1);
        error("W1", 2);
        error("W10", NONE);
        error("W10 ", 3);
        error("W10\u0000", 3);
        error("W10\u00e9", 3);
        error("W10x", 3);
        error("W10C", 3);
        error("W10g", 4);
        error("W10g0", 5);
        error("W10g0102010", 11);
        error("W10g01020100", NONE);
        error("W10b01", 6);
        error("W10d0099", 8);
        error("W10d00999", NONE);
        error("W10cv1120", 9);
        error("W10cv112000", NONE);
        error("W10ccd00000cg09241717b096v949999", NONE);
    }

    private static void findsErrorsOfNumbers() {
        error("W09", 1);
        error("W60", NONE);
        error("W61", 2);
        error("W7", 1);
        error("W1:", 2);
        error("W1/", 2);
        error("W10g00", 5);
        error("W10g1", 4);
        error("W11g10", 6);
        error("W11g11", 5);
        error("W11g2", 4);
        error("W60b59", 6);
        error("W60b6", 4);
        error("W10b010", 6);
        error("W10b017", 6);
        error("W10d10", 6);
        error("W10d11", 5);
        error("W10d00a", 6);
        error("W10g0100", 7);
        error("W10g0101", 7);
        error("W10g0125", 7);
        error("W10g013", 6);
        error("W10g010202", 9);
        error("W10g01021", 8);
        error("W10g01240023", NONE);
        error("W10g01240024", 11);
        error("W10g01242424", 9);
        error("W10g01100010", 10);
        error("W10g01100009", NONE);
        error("W10v", 3);
        error("W10cv0", 5);
        error("W10cv15", 6);
        error("W10cv10", 6);
        error("W10cv111", 7);
        error("W10cv112021", 10);
        error("W10cv112020", NONE);
        error("W10cv11203", 9);
        error("W10cv119999", NONE);
        error("W10cv112500", NONE);
        error("W10cv112526", 10);
    }

    private static void findsTooMany() {
        error("W10g01020000g02020000g03020000g04020000", NONE);
        error("W10g01020000g02020000g03020000g04020000g05", 39);
        error("W10b011b021b031b041b051b061", NONE);
        error("W10b011b021b031b041b051b061b", 27);
        error("W10d00000d01000d02000d03000", NONE);
        error("W10d00000d01000d02000d03000d", 27);
        error("W10cccc", NONE);
        error("W10ccccc", 7);
        String eight = "v112000v112000v112000v112000v112000v112000v112000v112000";
        error("W10c" + eight, NONE);
        error("W10c" + eight + "v", 60);
        error("W10c" + eight + "c" + eight, NONE);
        error("W10c" + eight + "c" + eight + "v", 117);
        error("W10c" + eight + "c" + eight + "cv", 118);
    }

    private static void findsTakenKilometers() {
        error("W10g05020000g05", 14);
        error("W10b051b05", 9);
        error("W10d10000d10", 11);
        error("W11g10020000g10", 14);
        error("W10g05020000b051d05000", NONE);
        error("W10d00000d00", 11);
        error("W10d00000d01000d00", 17);
    }

    private static void loads() {
        WinterRoad x = Check.write(new WinterRoad(), "W12g04040302b032d06050cv215030v313005cv316040");
        Check.due("load", x.load(), 3);
        int[] counts = {12, 0, 1, 1, 1, 2, 3, 0, 0, 75, 50, 0};
        for (int what = 0; what < counts.length; what++) {
            Check.due("about(" + what + ") behind load", x.about(what), counts[what]);
        }
        int[] gate = {4, 4, 3, 2};
        for (int what = 0; what < gate.length; what++) {
            Check.due("gate(0, " + what + ") behind load", x.gate(0, what), gate[what]);
        }
        Check.due("bay's kilometer", x.bay(0, 0), 3);
        Check.due("bay's places", x.bay(0, 1), 2);
        Check.due("depot's kilometer", x.depot(0, 0), 6);
        Check.due("depot's liters", x.depot(0, 1), 50);
        int[] vehicle = {3, 1, 30, 5, 0, 0, 0};
        for (int what = 0; what < vehicle.length; what++) {
            Check.due("vehicle(1, " + what + ") behind load", x.vehicle(1, what), vehicle[what]);
        }
        Check.due("vehicle 2's convoy", x.vehicle(2, 5), 1);
        Check.due("order of convoy 0", 10 * x.member(0, 0) + x.member(0, 1), 1);
        Check.due("the text is kept", x.clearText(), 45);
        Check.due("no vehicles", Check.write(new WinterRoad(), "W33").load(), 0);
    }

    private static void loadLeavesNothing() {
        WinterRoad x = Check.road("W12g04040302b012d12090cv942005v919999cv319999");
        x.hold(1, 2);
        x.pass(1);
        x.arrives(1);
        Check.due("load again", x.load(), 3);
        int[] counts = {12, 0, 1, 1, 1, 2, 3, 0, 0, 203, 90, 0};
        for (int what = 0; what < counts.length; what++) {
            Check.due("about(" + what + ") behind load again", x.about(what), counts[what]);
        }
        for (int what = 3; what <= 5; what++) {
            Check.due("convoy(0, " + what + ") behind load again", x.convoy(0, what), 0);
            Check.due("convoy(1, " + what + ") behind load again", x.convoy(1, what), 0);
        }
        Check.due("kilometer", x.convoy(0, 0), 0);
        Check.due("vehicles of convoy 0", x.convoy(0, 1), 2);
        x.hold(1, 2);
        Check.due("who is left ahead", x.leaves(0), 0);
        Check.due("load behind a look ahead", x.load(), 3);
        Check.due("vehicles in the bay", x.bay(0, 2), 0);
        Check.write(x, "W60");
        x.load();
        for (int what = 1; what <= 11; what++) {
            Check.due("about(" + what + ") of an empty road", x.about(what), 0);
        }
        Check.due("a new convoy's kilometer", x.addConvoy() + x.convoy(0, 0) + x.convoy(0, 1), 0);
    }

    private static void loadForgets() {
        WinterRoad x = Check.road("W10cv119999");
        x.hold(0, 3);
        x.pass(1);
        x.save(0);
        x.save(1);
        Check.write(x, "W1");
        Check.badState("load of no journey", () -> x.load());
        Check.due("hours stay", x.about(1), 1);
        Check.due("slot 0 stays", x.restore(0), 1);
        x.hold(0, 3);
        Check.write(x, "W10cv119999");
        Check.due("load again", x.load(), 1);
        Check.due("hours behind it", x.about(1), 0);
        Check.due("hold behind it", x.convoy(0, 3), 0);
        Check.badState("undo behind load", () -> x.undo());
        Check.badState("restore(0) behind load", () -> x.restore(0));
        Check.badState("restore(1) behind load", () -> x.restore(1));
    }
}
