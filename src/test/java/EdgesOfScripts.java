/** The edges that promises 26 and 27 name, sentence by sentence. */
final class EdgesOfScripts {
    private static final int NONE = WinterRoad.NONE;
    /**
     * In hour 0 the gate is closed; 1 and 2 come to kilometer 8, and 3 to the bay, with 1 liter. In hour 1 the
     * gate is open; 1 and 2 arrive, 3 is left in the bay, and 0 comes to kilometer 2 (and stands with 3 at 6
     * in the end, whom it takes up at 4).
     */
    private static final String ROAD = "W10g09050100b042d10005cv119999cv919999v919999cv442017";
    /** Four convoys that burn 1, 2, 3 and 4 liters an hour. */
    private static final String FOUR = "W60cv119999cv129999cv139999cv149999";

    private EdgesOfScripts() {
    }

    static void run() {
        mostCommands();
        arguments();
        firstIsTheHighest();
        passes();
        holds();
        supplies();
        atAKilometer();
        withLiters();
        whereAVehicleIs();
        gateIsClosed();
        inABay();
        arrived();
        nothingOfTheKind();
        otherGroups();
        decimal();
        firstThatFails();
        onACopy();
        hoursToSimulate();
        overflow();
        chanceHolds();
        chanceWithoutConvoys();
        chanceSupplies();
        chanceSuppliesAFullDepot();
        thenTheHour();
        told();
        simulatesOnACopy();
    }

    private static void script(int n, long script, int want) {
        Check.due("runScript(" + n + ", " + script + ")", Check.road(ROAD).runScript(n, script), want);
    }

    // ---- runScript

    private static void mostCommands() {
        Check.sentence("Promise 26", "A script has 1 to 3 commands");
        script(1, 10001, NONE);
        script(2, 1000110001L, NONE);
        script(3, 100011000110001L, NONE);
        WinterRoad x = Check.road(ROAD);
        Check.sentence("Promise 26", "- `n`: number of commands, 1 to 3");
        for (int n : new int[] {Integer.MIN_VALUE, -1, 0, 4, 5, Integer.MAX_VALUE}) {
            Check.badArgument(n + " commands", () -> x.runScript(n, 10001));
        }
    }

    private static void arguments() {
        Check.sentence("Promise 26", "Throws `IllegalArgumentException` if n is out of range, or if script is"
                + " negative or has more than 5 * n digits");
        WinterRoad x = Check.road(ROAD);
        Check.badArgument("0 commands", () -> x.runScript(0, 0));
        Check.badArgument("4 commands", () -> x.runScript(4, 0));
        for (int n = 1; n <= 3; n++) {
            int commands = n;
            Check.badArgument("-1", () -> x.runScript(commands, -1));
            Check.badArgument("-10001", () -> x.runScript(commands, -10001));
            Check.badArgument("MIN", () -> x.runScript(commands, Long.MIN_VALUE));
            Check.badArgument("MAX", () -> x.runScript(commands, Long.MAX_VALUE));
        }
        Check.badArgument("6 digits for 1", () -> x.runScript(1, 100000));
        Check.badArgument("11 digits for 2", () -> x.runScript(2, 10000000000L));
        Check.badArgument("16 digits for 3", () -> x.runScript(3, 1000000000000000L));
        Check.badArgument("1 << 32, and 10001", () -> x.runScript(1, (1L << 32) + 10001));
        Check.sentence("Promise 26", "- `script`: the commands, a number of at most 5 * n digits (0 or more)");
        script(1, 99999, 0);
        script(2, 9999999999L, 0);
        script(3, 999999999999999L, 0);
        script(1, 0, 0);
        script(2, 0, 0);
        script(3, 0, 0);
    }

    private static void firstIsTheHighest() {
        Check.sentence("Promise 26", "each is a group of five decimal digits d1 to d5, and the first command is the"
                + " highest group of the number (with zeros before it, if it has fewer digits).");
        script(2, 1000240002L, NONE);
        script(2, 4000210002L, 0);
        script(3, 100012000110001L, NONE);
        script(3, 100022000010098L, NONE);
        script(1, 1, 0);
        script(2, 10001, 0);
        script(3, 1000110001L, 0);
    }

    private static void passes() {
        Check.sentence("Promise 26", "1 0 0 x y: pass(xy).");
        script(1, 10001, NONE);
        script(1, 10099, NONE);
        script(1, 10000, 0);
        script(2, 1000640006L, NONE);
        script(2, 1000640007L, 1);
        script(2, 1009940006L, NONE);
        script(2, 1009940007L, 1);
    }

    private static void holds() {
        Check.sentence("Promise 26", "2 c 0 x y: hold(c, xy).");
        script(1, 20000, NONE);
        script(1, 20023, NONE);
        script(1, 20024, 0);
        script(1, 20099, 0);
        script(1, 22023, NONE);
        script(3, 200231002340001L, 2);
        script(3, 200231002440001L, NONE);
    }

    private static void supplies() {
        Check.sentence("Promise 26", "3 d x y z: supply(d, xyz).");
        script(1, 30001, NONE);
        script(1, 30000, 0);
        script(1, 30500, NONE);
        script(1, 30501, 0);
        script(1, 30999, 0);
        script(2, 3050030494L, NONE);
        script(2, 3050030495L, 1);
        script(3, 305003049430001L, 2);
    }

    private static void atAKilometer() {
        Check.sentence("Promise 26", "4 c 0 x y: succeeds if the convoy c has come at least to the kilometer xy.");
        script(1, 40000, NONE);
        script(1, 40001, 0);
        script(2, 1000141007L, NONE);
        script(2, 1000141008L, NONE);
        script(2, 1000141009L, 1);
        script(2, 1000241010L, NONE);
        script(2, 1000241011L, 1);
    }

    private static void withLiters() {
        Check.sentence("Promise 26", "5 v v x y: succeeds if the vehicle vv has at least xy liters.");
        script(1, 50000, NONE);
        script(1, 50099, NONE);
        script(1, 50316, NONE);
        script(1, 50317, NONE);
        script(1, 50318, 0);
        script(2, 1000250301L, NONE);
        script(2, 1000250302L, 1);
    }

    private static void whereAVehicleIs() {
        Check.sentence("Promise 26", "6 v v 0 w: succeeds if the vehicle vv is at w, as told by vehicle(vv, 4).");
        script(1, 60300, NONE);
        script(1, 60301, 0);
        script(1, 60302, 0);
        script(2, 1000260300L, 1);
        script(2, 1000260301L, NONE);
        script(2, 1000260302L, 1);
        script(2, 1000260100L, 1);
        script(2, 1000260101L, 1);
        script(2, 1000260102L, NONE);
        script(1, 60303, 0);
        script(1, 60309, 0);
    }

    private static void gateIsClosed() {
        Check.sentence("Promise 26", "7 g 0 0 m: succeeds if the gate g is closed in the hour that goes by next (m"
                + " is 1), or not (m is 0).");
        script(1, 70001, NONE);
        script(1, 70000, 0);
        script(2, 1000170001L, 1);
        script(2, 1000170000L, NONE);
        script(2, 1000570001L, NONE);
        for (int m = 2; m <= 9; m++) {
            script(1, 70000 + m, 0);
            script(2, 1000170000L + m, 1);
        }
    }

    private static void inABay() {
        Check.sentence("Promise 26", "8 b 0 0 n: succeeds if the bay b has at least n vehicles.");
        script(1, 80000, NONE);
        script(1, 80001, 0);
        script(2, 1000280000L, NONE);
        script(2, 1000280001L, NONE);
        script(2, 1000280002L, 1);
        WinterRoad x = Check.road("W10b016c" + "v912001".repeat(6));
        Check.due("6 of 6", x.runScript(2, 1000180006L), NONE);
        Check.due("7 of 6", x.runScript(2, 1000180007L), 1);
        Check.due("9 of 6", x.runScript(2, 1000180009L), 1);
    }

    private static void arrived() {
        Check.sentence("Promise 26", "9 0 0 x y: succeeds if at least xy vehicles have arrived.");
        script(1, 90000, NONE);
        script(1, 90001, 0);
        script(2, 1000290002L, NONE);
        script(2, 1000290003L, 1);
        String eight = "c" + "v919910".repeat(8);
        WinterRoad x = Check.road("W10" + eight + eight);
        Check.due("16 of 16", x.runScript(2, 1000290016L), NONE);
        Check.due("17 of 16", x.runScript(2, 1000290017L), 1);
    }

    private static void nothingOfTheKind() {
        Check.sentence("Promise 26", "The commands 1 to 3 fail if the method would throw an exception; commands"
                + " with things that do not exist fail");
        script(1, 23000, 0);
        script(1, 29000, 0);
        script(1, 31001, 0);
        script(1, 39001, 0);
        script(1, 43000, 0);
        script(1, 50400, 0);
        script(1, 51600, 0);
        script(1, 59900, 0);
        script(1, 60400, 0);
        script(1, 71000, 0);
        script(1, 81000, 0);
        for (int thing : new int[] {20000, 30001, 40000, 50000, 60000, 70000, 80000}) {
            Check.due(thing + " of none", new WinterRoad().runScript(1, thing), 0);
        }
        Check.due("90000 of none", new WinterRoad().runScript(1, 90000), NONE);
    }

    private static void otherGroups() {
        Check.sentence("Promise 26", "and so does any other group (also one with another digit where a 0 is"
                + " written).");
        for (int group : new int[] {0, 1, 9, 10, 100, 1000, 9999}) {
            script(1, group, 0);
        }
        int[] written = {10101, 11001, 10901, 19001, 20100, 20900, 40100, 40900, 60010, 60090, 70101, 70011, 70901,
            70091, 80010, 80100, 80090, 80900, 91000, 90100, 99000, 90900};
        for (int group : written) {
            script(1, group, 0);
        }
    }

    private static void decimal() {
        Check.sentence("Promise 26", "xy, vv and xyz are decimal numbers.");
        script(3, 301233050030371L, NONE);
        script(3, 301233050030372L, 2);
        Check.due("12 hours at speed 1", Check.road("W60cv119999").runScript(2, 1001240012L), NONE);
        Check.due("not 13 kilometers", Check.road("W60cv119999").runScript(2, 1001240013L), 1);
        WinterRoad x = Check.road("W10c" + "v119999".repeat(8) + "c" + "v119999".repeat(7) + "v112012");
        Check.due("vehicle 15 has 12", x.runScript(1, 51512), NONE);
        Check.due("vehicle 15 has not 13", x.runScript(1, 51513), 0);
        Check.due("vehicle 14 has 99", x.runScript(1, 51499), NONE);
    }

    private static void firstThatFails() {
        Check.sentence("Promise 26", "Returns the index, from 0, of the first command that fails; NONE if all"
                + " succeed.");
        script(3, 400004000040000L, NONE);
        script(3, 400014000140001L, 0);
        script(3, 400004000140001L, 1);
        script(3, 400004000040001L, 2);
        script(3, 400014000040000L, 0);
        script(1, 40001, 0);
    }

    private static void onACopy() {
        Check.sentence("Promise 26", "Runs a script on a copy of the state.");
        WinterRoad x = Check.road(ROAD);
        x.pass(1);
        for (int times = 0; times < 2; times++) {
            Check.due("all succeed", x.runScript(3, 300992000910001L), NONE);
            Check.due("the second fails", x.runScript(3, 300992002410001L), 1);
            Check.due("from kilometer 1 to 2", x.runScript(3, 400011000140002L), NONE);
            Check.due("not to 3", x.runScript(3, 400011000140003L), 2);
        }
        WinterRoad y = Check.road(ROAD);
        y.pass(1);
        Check.due("all", Look.at(x), Look.at(y));
        Check.due("one action is remembered", x.undo(), 0);
    }

    // ---- simulate

    private static void hoursToSimulate() {
        Check.sentence("Promise 27", "Throws `IllegalArgumentException` if m is out of range");
        WinterRoad x = Check.road(FOUR);
        for (int m : new int[] {Integer.MIN_VALUE, -1, 0, 100, 101, Integer.MAX_VALUE}) {
            Check.badArgument(m + " hours", () -> x.simulate(0, m));
        }
        Check.sentence("Promise 27", "- `m`: number of hours, 1 to 99");
        Check.due("1 hour", x.simulate(0, 1), 10);
        String long60 = "W60g01242301g20242307g40242312d00000cv112000v119999cv119999";
        for (int m : new int[] {1, 2, 50, 98, 99}) {
            Check.due(m + " hours", Check.road(long60).simulate(1, m), ScriptTest.byHand(Check.road(long60), 1, m));
        }
    }

    private static void overflow() {
        Check.sentence("Promise 27", "x is replaced by x * 6364136223846793005L + 1442695040888963407L (with long"
                + " overflow), and r = (int) (x >>> 33) is computed.");
        WinterRoad x = Check.road(FOUR);
        Check.due("-3 gives 92786555: 3 is held for 3", x.simulate(-3, 1), 6);
        Check.due("then 1886720533 and 1022664158", x.simulate(-3, 3), 18);
        Check.due("MIN + 4 gives 2057741850: 3 is held for 4", x.simulate(Long.MIN_VALUE + 4, 2), 12);
        Check.due("MAX - 8 gives 1016197875: 2 is held for 3", x.simulate(Long.MAX_VALUE - 8, 2), 14);
        Check.due("MAX gives 500810664, 416590519, 133760853", x.simulate(Long.MAX_VALUE, 3), 30);
        Check.sentence("Promise 27", "A long x starts as the seed.");
        Check.sentence("Promise 27", "- `seed`: any long");
        Check.due("MIN gives 1241693631, there is no depot", x.simulate(Long.MIN_VALUE, 1), 10);
        Check.due("0 gives 167951807, 218396424", x.simulate(0, 2), 20);
        Check.due("the same again", x.simulate(-3, 1), 6);
    }

    /** The first numbers of seed 2 are 1649717740, four that do nothing here, and one that holds a convoy for 1. */
    private static void chanceHolds() {
        Check.sentence("Promise 27", "If r % 5 is 0 and there are convoys, the convoy r / 8 % (their number) is"
                + " held for r / 64 % 6 hours from now on.");
        WinterRoad x = Check.road(FOUR);
        Check.due("of 4, 1 is held for 5", x.simulate(2, 1), 8);
        Check.due("4 hours", x.simulate(2, 4), 32);
        Check.due("in the fifth, 0 is held for 1", x.simulate(2, 5), 39);
        Check.due("in the sixth, none", x.simulate(2, 6), 49);
        x = Check.road(FOUR.substring(0, 27));
        Check.due("of 3, 0 is held for 5", x.simulate(2, 4), 20);
        Check.due("in the fifth, 2 for 1", x.simulate(2, 5), 22);
        x = Check.road(FOUR.substring(0, 11));
        Check.due("of 1, it is held for 5", x.simulate(2, 5), 0);
        Check.due("in the sixth, no more", x.simulate(2, 6), 1);
        x = Check.road(FOUR);
        x.hold(0, 23);
        Check.due("seed 27: 844439075 holds 0 for 0 hours", x.simulate(27, 1), 10);
        Check.due("seed 29: 178721360 holds 2 for 1 hour", x.simulate(29, 2), 6 + 9);
    }

    private static void chanceWithoutConvoys() {
        Check.sentence("Promise 27", "If r % 5 is 0 and there are convoys");
        Check.due("seed 2, nothing there", new WinterRoad().simulate(2, 99), 0);
        Check.due("seed 2, a depot", Check.road("W10d00000").simulate(2, 99), 0);
        Check.due("seed 2, a convoy without vehicles", Check.road("W10c").simulate(2, 99), 0);
        Check.sentence("Promise 27", "If r % 5 is 1 and there are depots");
        Check.due("seed 23, no depot", Check.road("W10cv119999").simulate(23, 1), 1);
        Check.due("seed 23, nothing there", new WinterRoad().simulate(23, 99), 0);
    }

    private static void chanceSupplies() {
        Check.sentence("Promise 27", "the depot r / 8 % (their number) gets r / 64 % 30 liters");
        Check.due("seed 6: 318282311, 0 of 2 gets 1", Check.road("W60d00000d10000cv912000").simulate(6, 1), 1);
        Check.due("seed 6: the other gets none", Check.road("W60d10000d00000cv912000").simulate(6, 1), 0);
        Check.due("seed 23: 28390856, 1 of 2 gets 27", Check.road("W60d10000d00000cv939900").simulate(23, 1), 27);
        Check.due("seed 23: the other gets none", Check.road("W60d00000d10000cv939900").simulate(23, 1), 0);
        Check.due("seed 387: 1 of 2 gets 29", Check.road("W60d10000d00000cv949900").simulate(387, 1), 28);
        Check.due("seed 4: 984000026, 1 of 2 gets 0", Check.road("W60d10000d00000cv912000").simulate(4, 1), 0);
    }

    /** Ten vehicles take 990 liters and burn 40; the last one, of use 2, gets the rest. */
    private static void chanceSuppliesAFullDepot() {
        Check.sentence("Promise 27", "but no more than 999 in all.");
        String ten = "c" + "v149900".repeat(8) + "cv149900v149900cv922000";
        Check.due("999 and 27: the last gets 9", Check.road("W60d00999" + ten).simulate(23, 1), 48);
        Check.due("973 and 27: the last gets 9", Check.road("W60d00973" + ten).simulate(23, 1), 48);
        Check.due("972 and 27: the last gets 9", Check.road("W60d00972" + ten).simulate(23, 1), 48);
        Check.due("970 and 27: the last gets 7", Check.road("W60d00970" + ten).simulate(23, 1), 46);
    }

    private static void thenTheHour() {
        Check.sentence("Promise 27", "Then the hour goes by.");
        Check.due("the liters come ahead of it", Check.road("W60d00000d10000cv112000").simulate(6, 1), 1);
        Check.due("the hold too", Check.road("W60cv119999").simulate(2, 1), 0);
    }

    private static void told() {
        Check.sentence("Promise 27", "Returns 10000 * (the vehicles that arrive in them) + (the liters that are"
                + " burnt in them).");
        String eight = "c" + "v919999".repeat(8);
        Check.due("16 vehicles on 10 kilometers", Check.road("W10" + eight + eight).simulate(0, 99), 160160);
        Check.due("none", Check.road("W10cv119900").simulate(0, 99), 0);
        WinterRoad x = Check.road("W10cv919999cv119999");
        x.pass(2);
        Check.due("only what comes now", x.simulate(9, 99), 10008);
        x.pass(8);
        Check.due("all have arrived", x.simulate(9, 99), 0);
    }

    private static void simulatesOnACopy() {
        Check.sentence("Promise 27", "Simulates m hours on a copy of the state.");
        WinterRoad x = Check.road("W60d00010" + FOUR.substring(3));
        x.hold(0, 2);
        x.simulate(2, 99);
        Check.due("the one that is held burns nothing", x.simulate(0, 1), 9);
        Check.due("the same again", x.simulate(0, 1), 9);
        WinterRoad y = Check.road("W60d00010" + FOUR.substring(3));
        y.hold(0, 2);
        Check.due("all", Look.at(x), Look.at(y));
        Check.due("one action is remembered", x.undo(), 0);
    }
}
