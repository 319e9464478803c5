/** Promises 26 and 27: runScript, simulate. */
public final class ScriptTest {
    private static final int NONE = WinterRoad.NONE;

    public static void main(String[] args) {
        arguments();
        passes();
        holds();
        supplies();
        comparesConvoys();
        comparesVehicles();
        comparesGatesAndBays();
        countsArrived();
        unknownCommands();
        runsInOrder();
        changesNothing();
        simulateArguments();
        simulates();
        simulateStopsAtFull();
        Check.end();
    }

    private static void arguments() {
        WinterRoad x = new WinterRoad();
        Check.badArgument("n 0", () -> x.runScript(0, 0));
        Check.badArgument("n 4", () -> x.runScript(4, 10001));
        Check.badArgument("n -1", () -> x.runScript(-1, 10001));
        Check.badArgument("script -1", () -> x.runScript(1, -1));
        Check.badArgument("script MIN", () -> x.runScript(3, Long.MIN_VALUE));
        Check.badArgument("script MAX", () -> x.runScript(3, Long.MAX_VALUE));
        Check.badArgument("6 digits", () -> x.runScript(1, 100000));
        Check.badArgument("11 digits", () -> x.runScript(2, 10000000000L));
        Check.badArgument("16 digits", () -> x.runScript(3, 1000000000000000L));
        Check.due("5 digits", x.runScript(1, 99999), 0);
        Check.due("10 digits", x.runScript(2, 9999999999L), 0);
        Check.due("15 digits", x.runScript(3, 999999999999999L), 0);
        Check.due("zero", x.runScript(3, 0), 0);
        Check.due("zeros before it", x.runScript(2, 10001), 0);
    }

    /** In the second hour 1 and 2 arrive and 3 is left in bay 0; vehicle 0 is on its way then. */
    private static WinterRoad road() {
        return Check.road("W10g09050100b042d10005cv119999cv919999v919999cv442017");
    }

    private static void one(long command, int want) {
        Check.due("runScript(1, " + command + ")", road().runScript(1, command), want);
    }

    private static void passes() {
        one(10001, NONE);
        one(10099, NONE);
        one(10000, 0);
        one(10101, 0);
        one(11001, 0);
    }

    private static void holds() {
        one(20000, NONE);
        one(20023, NONE);
        one(20024, 0);
        one(22001, NONE);
        one(23001, 0);
        one(20101, 0);
    }

    private static void supplies() {
        one(30001, NONE);
        one(30500, NONE);
        one(30000, 0);
        one(30501, 0);
        one(31001, 0);
        two(3050030494L, NONE);
        two(3050030495L, 1);
    }

    private static void two(long script, int want) {
        Check.due("runScript(2, " + script + ")", road().runScript(2, script), want);
    }

    private static void comparesConvoys() {
        one(40000, NONE);
        one(40001, 0);
        one(43000, 0);
        one(40100, 0);
        two(1000340003L, NONE);
        two(1000340004L, 1);
        two(1000241010L, NONE);
        two(1000241011L, 1);
    }

    private static void comparesVehicles() {
        one(50099, NONE);
        one(50317, NONE);
        one(50318, 0);
        one(50400, 0);
        one(51600, 0);
        two(1000150098L, NONE);
        two(1000150099L, 1);
        one(60000, NONE);
        one(60001, 0);
        one(60010, 0);
        one(60400, 0);
        one(60003, 0);
        two(1000260102L, NONE);
        two(1000260100L, 1);
        two(1000260301L, NONE);
        two(1000260302L, 1);
    }

    private static void comparesGatesAndBays() {
        one(70001, NONE);
        one(70000, 0);
        one(70002, 0);
        one(70011, 0);
        one(70101, 0);
        one(71001, 0);
        two(1000270000L, NONE);
        two(1000270001L, 1);
        one(80000, NONE);
        one(80001, 0);
        one(81000, 0);
        one(80010, 0);
        one(80100, 0);
        two(1000280001L, NONE);
        two(1000280002L, 1);
    }

    private static void countsArrived() {
        one(90000, NONE);
        one(90001, 0);
        one(91000, 0);
        one(90100, 0);
        two(1000290002L, NONE);
        two(1000290003L, 1);
        two(1009990003L, 1);
    }

    private static void unknownCommands() {
        for (int rest = 0; rest < 10000; rest += 1001) {
            one(rest, 0);
        }
    }

    private static void runsInOrder() {
        WinterRoad x = road();
        Check.due("pass, hold, pass", x.runScript(3, 100022000510001L), NONE);
        Check.due("held for 2", x.runScript(3, 200021000240000L), NONE);
        Check.due("held for 2 of 3", x.runScript(3, 200021000340001L), NONE);
        Check.due("held for 3 of 3", x.runScript(3, 200031000340001L), 2);
        Check.due("the first that fails", x.runScript(3, 100010000010000L), 1);
        Check.due("none", x.runScript(2, 1), 0);
    }

    private static void changesNothing() {
        WinterRoad x = road();
        x.runScript(3, 100053050020023L);
        Check.due("hours", x.about(1), 0);
        Check.due("depot", x.depot(0, 1), 5);
        Check.due("held", x.convoy(0, 3), 0);
        Check.badState("no action", () -> x.undo());
        x.simulate(1, 99);
        Check.due("hours", x.about(1), 0);
        Check.due("burnt", x.about(11), 0);
        Check.badState("no action", () -> x.undo());
    }

    private static void simulateArguments() {
        WinterRoad x = road();
        Check.badArgument("m 0", () -> x.simulate(1, 0));
        Check.badArgument("m -1", () -> x.simulate(1, -1));
        Check.badArgument("m 100", () -> x.simulate(1, 100));
        Check.due("nothing on the road", new WinterRoad().simulate(Long.MIN_VALUE, 99), 0);
    }

    /** Does on a second road, by calls of the face, what simulate tells. */
    static int byHand(WinterRoad y, long seed, int m) {
        int arrived = y.about(7);
        int burnt = y.about(11);
        long x = seed;
        for (int i = 0; i < m; i++) {
            x = x * 6364136223846793005L + 1442695040888963407L;
            int r = (int) (x >>> 33);
            if (r % 5 == 0 && y.about(5) > 0) {
                y.hold(r / 8 % y.about(5), r / 64 % 6);
            }
            if (r % 5 == 1 && y.about(4) > 0) {
                int d = r / 8 % y.about(4);
                int liters = Math.min(r / 64 % 30, 999 - y.depot(d, 1));
                if (liters > 0) {
                    y.supply(d, liters);
                }
            }
            y.pass(1);
        }
        return 10000 * (y.about(7) - arrived) + y.about(11) - burnt;
    }

    private static void simulates() {
        String[] texts = {"W20d00005d09000g05070301b032cv112000v219910cv319909",
            "W10b011d01000d02990cv142004v919905cv119930cv222020c", "W30d00999cv149920", "W10cv119999"};
        long[] seeds = {0, 1, -1, 77, Long.MAX_VALUE, Long.MIN_VALUE, 123456789012345L};
        for (String text : texts) {
            for (long seed : seeds) {
                for (int m : new int[] {1, 2, 5, 20, 99}) {
                    int want = byHand(Check.road(text), seed, m);
                    Check.due("simulate(" + seed + ", " + m + ") of " + text,
                            Check.road(text).simulate(seed, m), want);
                }
            }
        }
        WinterRoad x = Check.road(texts[0]);
        x.pass(5);
        int got = x.simulate(3, 50);
        Check.due("simulate on the way", got, byHand(x, 3, 50));
        WinterRoad y = Check.road("W10cv919999cv119999");
        y.pass(2);
        got = y.simulate(9, 99);
        Check.due("simulate behind an arrival", got, 10008);
        Check.due("the same by hand", byHand(y, 9, 99), 10008);
    }

    /** All of 999 liters are drawn from a depot that gets some more while it is full. */
    private static void simulateStopsAtFull() {
        String eight = "v149900v149900v149900v149900v149900v149900v149900v149900";
        String text = "W60d00999c" + eight + "cv149900v149900v149900v149900";
        for (long seed = 0; seed < 40; seed++) {
            int want = byHand(Check.road(text), seed, 99);
            Check.due("simulate(" + seed + ", 99), full", Check.road(text).simulate(seed, 99), want);
        }
    }
}
