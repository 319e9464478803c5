/** The edges that the section "Terms", TEXT, and promises 2 to 5 name, sentence by sentence. */
final class EdgesOfText {
    private static final int NONE = WinterRoad.NONE;
    private static final String EIGHT = "v112000".repeat(8);
    private static final String FOUR_GATES = "g01020000g02020000g03020000g04020000";
    private static final String SIX_BAYS = "b011b021b031b041b051b061";
    private static final String FOUR_DEPOTS = "d00000d01000d02000d03000";
    private static final String FULL = "W10" + FOUR_GATES + SIX_BAYS + FOUR_DEPOTS + "c" + "v112000".repeat(7) + "ccc";

    private EdgesOfText() {
    }

    static void run() {
        buffer();
        lengthOfTheRoad();
        anyParts();
        gates();
        bays();
        depots();
        convoys();
        vehicles();
        vehiclesAreFull();
        vehicleNeedsAConvoy();
        takenKilometer();
        blanks();
        leftToRight();
        firstSignNotAllowed();
        digitsNotAllowed();
        endsTooSoon();
        append();
        clearText();
        errorPosition();
        load();
        loadForgets();
        loadRefused();
    }

    private static void error(String text, int want) {
        Check.due("errorPosition of " + text, Check.write(new WinterRoad(), text).errorPosition(), want);
    }

    // ---- Terms: TEXT

    private static void buffer() {
        Check.sentence("Terms", "The object has a text buffer of at most 140 characters.");
        WinterRoad x = Check.write(new WinterRoad(), FULL);
        Check.badState("append to a journey of 140", () -> x.append('c'));
        error(FULL, NONE);
        Check.due("load of 140", x.load(), 7);
        Check.due("convoys", x.about(5), 4);
        Check.due("length", x.clearText(), 140);
    }

    private static void lengthOfTheRoad() {
        Check.sentence("Terms", "A journey is the letter W, two digits for the length of the road (10 to 60)");
        error("w10", 0);
        error("V10", 0);
        error("X10", 0);
        error("10", 0);
        error("W0", 1);
        error("W09", 1);
        error("W10", NONE);
        error("W59", NONE);
        error("W60", NONE);
        error("W61", 2);
        error("W7", 1);
        Check.due("length of W10", Check.road("W10").about(0), 10);
        Check.due("length of W60", Check.road("W60").about(0), 60);
    }

    private static void anyParts() {
        Check.sentence("Terms", "and then any number of parts, in any order");
        error("W10", NONE);
        error("W10g09242323b091d10999cv112000", NONE);
        error("W10cv112000d10999b091g09242323", NONE);
        error("W10d10999g09242323cb091v112000", NONE);
    }

    private static void gates() {
        Check.sentence("Terms", "the letter g, two digits for the kilometer of a gate");
        error("W10g00", 5);
        error("W10g01020000", NONE);
        error("W10g09020000", NONE);
        error("W10g10", 4);
        error("W11g10020000", NONE);
        error("W11g11", 5);
        error("W60g59020000", NONE);
        error("W60g60", 4);
        Check.sentence("Terms", "two for its period (02 to 24)");
        error("W10g0100", 7);
        error("W10g0101", 7);
        error("W10g01020000", NONE);
        error("W10g01240000", NONE);
        error("W10g0125", 7);
        error("W10g0130", 6);
        Check.sentence("Terms", "two for its closed time (00 to the period less 1)");
        error("W10g01020100", NONE);
        error("W10g010202", 9);
        error("W10g01110000", NONE);
        error("W10g01111000", NONE);
        error("W10g011111", 9);
        error("W10g01242300", NONE);
        error("W10g012424", 9);
        Check.sentence("Terms", "two for its phase (likewise), at most 4 of these");
        error("W10g01020001", NONE);
        error("W10g01020002", 11);
        error("W10g01110010", NONE);
        error("W10g01110011", 11);
        error("W10g01240023", NONE);
        error("W10g01240024", 11);
        error("W10" + FOUR_GATES, NONE);
        error("W10" + FOUR_GATES + "g05020000", 39);
    }

    private static void bays() {
        Check.sentence("Terms", "the letter b, two digits for the kilometer of a bay");
        error("W10b00", 5);
        error("W10b011", NONE);
        error("W10b091", NONE);
        error("W10b10", 4);
        error("W60b591", NONE);
        error("W60b60", 4);
        Check.sentence("Terms", "one for its places (1 to 6), at most 6");
        error("W10b010", 6);
        error("W10b011", NONE);
        error("W10b016", NONE);
        error("W10b017", 6);
        error("W10" + SIX_BAYS, NONE);
        error("W10" + SIX_BAYS + "b071", 27);
    }

    private static void depots() {
        Check.sentence("Terms", "the letter d, two digits for the kilometer of a depot (00 to the length)");
        error("W10d00000", NONE);
        error("W10d10000", NONE);
        error("W10d11", 5);
        error("W60d60000", NONE);
        error("W60d61", 5);
        Check.sentence("Terms", "three for its liters (000 to 999), at most 4");
        error("W10d00000", NONE);
        error("W10d00999", NONE);
        error("W10d0099", 8);
        error("W10d009990", 9);
        error("W10" + FOUR_DEPOTS, NONE);
        error("W10" + FOUR_DEPOTS + "d04000", 27);
    }

    private static void convoys() {
        Check.sentence("Terms", "the letter c: a convoy, at most 4");
        error("W10cccc", NONE);
        error("W10ccccc", 7);
    }

    private static void vehicles() {
        Check.sentence("Terms", "the letter v, a digit for its speed (1 to 9)");
        error("W10cv0", 5);
        error("W10cv112000", NONE);
        error("W10cv912000", NONE);
        error("W10cva", 5);
        Check.sentence("Terms", "one for its use (1 to 4)");
        error("W10cv10", 6);
        error("W10cv112000", NONE);
        error("W10cv142000", NONE);
        error("W10cv15", 6);
        Check.sentence("Terms", "two for its tank (20 to 99)");
        error("W10cv1119", 7);
        error("W10cv112000", NONE);
        error("W10cv119900", NONE);
        error("W10cv1100", 7);
        Check.sentence("Terms", "two for its liters (00 to its tank) of a vehicle");
        error("W10cv112000", NONE);
        error("W10cv112020", NONE);
        error("W10cv112021", 10);
        error("W10cv112525", NONE);
        error("W10cv112526", 10);
        error("W10cv119999", NONE);
    }

    private static void vehiclesAreFull() {
        Check.sentence("Terms", "which comes to the end of the last convoy told, at most 16 in all and 8 in a"
                + " convoy");
        error("W10c" + EIGHT, NONE);
        error("W10c" + EIGHT + "v112000", 60);
        error("W10c" + EIGHT + "c" + EIGHT, NONE);
        error("W10c" + EIGHT + "c" + EIGHT + "cv112000", 118);
        WinterRoad x = Check.road("W10cv112000cv112000v112000");
        Check.due("last of convoy 1", x.member(1, 1), 2);
        Check.due("vehicles of convoy 0", x.convoy(0, 1), 1);
    }

    private static void vehicleNeedsAConvoy() {
        Check.sentence("Terms", "a v may stand wherever a convoy was told ahead");
        error("W10v112000", 3);
        error("W10d00000v112000c", 9);
        error("W10cd00000v112000", NONE);
    }

    private static void takenKilometer() {
        Check.sentence("Terms", "If there is something of the kind at the kilometer already, the error position is"
                + " the index of its last digit.");
        error("W10g05020000g05020000", 14);
        error("W10b051b051", 9);
        error("W10d05000d05000", 11);
        error("W10d00000d00000", 11);
        error("W10d10000d10000", 11);
        error("W10d10000d1", 11);
        error("W10b011b091b051b091", 17);
        error("W10g05020000b051d05000", NONE);
    }

    private static void blanks() {
        Check.sentence("Terms", "There are no blanks.");
        error(" W10", 0);
        error("W 10", 1);
        error("W10 ", 3);
        error("W10c v112000", 4);
        error("W10cv 112000", 5);
        error("W10cv112000\n", 11);
    }

    private static void leftToRight() {
        Check.sentence("Terms", "The text is read from left to right.");
        error("W10g00b00", 5);
        error("W10v112000c", 3);
        error("W10b051b05x", 9);
    }

    private static void firstSignNotAllowed() {
        Check.sentence("Terms", "The error position is the index of the first character that these rules do not"
                + " allow at its place");
        error("x", 0);
        error("WW", 1);
        error("W1:", 2);
        error("W1/", 2);
        error("W10W", 3);
        error("W10C", 3);
        error("W100", 3);
        error("W10a", 3);
        error("W10e", 3);
        error("W10\u0000", 3);
        error("W10\u00ff", 3);
        error("W10gc", 4);
        error("W10cv112000x", 11);
    }

    private static void digitsNotAllowed() {
        Check.sentence("Terms", "(a digit is not allowed if no number that is allowed begins with it and those"
                + " before it)");
        error("W70", 1);
        error("W20g20", 4);
        error("W21g20020000", NONE);
        error("W21g21", 5);
        error("W10d20", 4);
        error("W10g0130", 6);
        error("W10g01101", 8);
        error("W10g01111", 9);
        error("W10g0110001", 10);
        error("W10g0111001", 11);
        error("W10cv1110", 7);
        error("W10cv112030", 9);
        error("W10cv11202", 10);
    }

    private static void endsTooSoon() {
        Check.sentence("Terms", "if the text ends too soon, it is the length of the text.");
        error("", 0);
        ends("W10", 0);
        ends("W10g01020000", 3);
        ends("W10b011", 3);
        ends("W10d00000", 3);
        ends("W10cv112000", 4);
    }

    /** A journey of which the last part begins behind so many signs, cut off at each of its signs. */
    private static void ends(String journey, int from) {
        for (int length = from + 1; length < journey.length(); length++) {
            error(journey.substring(0, length), length);
        }
        error(journey, NONE);
    }

    // ---- the methods

    private static void append() {
        WinterRoad x = new WinterRoad();
        Check.sentence("Promise 2", "- `c`: character code, 0 to 255");
        Check.due("append(0)", x.append(0), 1);
        Check.due("append(255)", x.append(255), 2);
        Check.sentence("Promise 2", "Throws `IllegalArgumentException` if c is out of range");
        for (int c : new int[] {-1, 256, 'W' + 256, 'W' + 65536, Integer.MIN_VALUE, Integer.MAX_VALUE}) {
            Check.badArgument("append(" + c + ")", () -> x.append(c));
        }
        Check.sentence("Promise 2", "Returns the new length of the text.");
        for (int length = 3; length <= 140; length++) {
            Check.due("append", x.append('c'), length);
        }
        Check.sentence("Promise 2", "Throws `IllegalStateException` if the text already has 140 characters");
        Check.badState("append to 140", () -> x.append('c'));
        Check.badState("append to 140 again", () -> x.append(0));
        x.clearText();
        Check.due("append behind clearText", x.append('W'), 1);
    }

    private static void clearText() {
        Check.sentence("Promise 3", "Empties the text buffer.");
        WinterRoad x = Check.write(new WinterRoad(), "W10c");
        x.clearText();
        Check.due("error of nothing", x.errorPosition(), 0);
        Check.write(x, "W10");
        Check.due("nothing of the old is left", x.errorPosition(), NONE);
        Check.sentence("Promise 3", "Returns the previous length of the text.");
        Check.due("clearText", x.clearText(), 3);
        Check.due("clearText of nothing", x.clearText(), 0);
        Check.due("clearText of 140", Check.write(x, FULL).clearText(), 140);
    }

    private static void errorPosition() {
        Check.sentence("Promise 4", "Returns the error position of the text; NONE if it is a journey.");
        WinterRoad x = new WinterRoad();
        Check.due("of a new object", x.errorPosition(), 0);
        Check.due("of a journey", Check.write(x, "W10").errorPosition(), NONE);
        Check.due("of a journey again", x.errorPosition(), NONE);
        Check.due("the road is not replaced", x.about(0), 20);
        Check.due("of no journey", Check.write(x, "W10W").errorPosition(), 3);
    }

    private static void load() {
        Check.sentence("Promise 5", "Returns the number of vehicles.");
        Check.due("of none", Check.write(new WinterRoad(), "W10").load(), 0);
        Check.due("of 16", Check.write(new WinterRoad(), "W10c" + EIGHT + "c" + EIGHT).load(), 16);
        Check.sentence("Promise 5", "Replaces everything by the journey of the text, ahead of the hour 0.");
        WinterRoad x = Check.road("W10g01242300b011d05005cv112001v119999cv919999");
        x.hold(0, 1);
        x.pass(30);
        x.hold(1, 20);
        x.arrives(1);
        Check.due("load again", x.load(), 3);
        Check.due("all", Look.at(x), Look.at(Check.road("W10g01242300b011d05005cv112001v119999cv919999")));
        Check.due("hours", x.about(1), 0);
        Check.due("the gate's closed hours", x.gate(0, 5), 23);
    }

    private static void loadForgets() {
        Check.sentence("Promise 5", "Forgets all remembered states and empties both save slots.");
        WinterRoad x = Check.road("W10c");
        x.hold(0, 1);
        x.save(0);
        x.save(1);
        x.load();
        Check.badState("undo", () -> x.undo());
        Check.badState("restore(0)", () -> x.restore(0));
        Check.badState("restore(1)", () -> x.restore(1));
        Check.sentence("Promise 5", "Keeps the text.");
        Check.due("text", x.clearText(), 4);
    }

    private static void loadRefused() {
        Check.sentence("Promise 5", "Throws `IllegalStateException` if the text is not a journey");
        WinterRoad empty = new WinterRoad();
        Check.badState("load of nothing", () -> empty.load());
        WinterRoad x = Check.road("W10cv119999");
        x.pass(2);
        x.save(1);
        for (String text : new String[] {"", "W", "W10cv11999", "W10cv1199999", "W61"}) {
            Check.write(x, text);
            Check.badState("load of " + text, () -> x.load());
        }
        Check.due("kilometer", x.convoy(0, 0), 2);
        Check.due("undo", x.undo(), 0);
        Check.due("restore", x.restore(1), 2);
    }
}
