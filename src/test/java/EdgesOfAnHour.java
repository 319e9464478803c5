/** The edges that the section "Terms", AN HOUR, names, sentence by sentence. */
final class EdgesOfAnHour {
    private static final int NONE = WinterRoad.NONE;
    private static final String SEVEN = "v119999".repeat(7);

    private EdgesOfAnHour() {
    }

    static void run() {
        hoursFromZero();
        noVehiclesOrAtTheEnd();
        ascending();
        held();
        filledUp();
        filledUpInOrder();
        slowest();
        asManySteps();
        closedGate();
        gateOfThisHour();
        tooFewLiters();
        freePlaces();
        behindThoseThere();
        leftInOrder();
        stands();
        standsWithoutVehicles();
        goesOn();
        arrives();
        emptyBay();
        eightInAConvoy();
        mostLiters();
        halfAtMostTen();
        asManyAsItsUse();
        nextOne();
        joinedOneGives();
        order();
        allLiters();
    }

    private static int[] convoy(WinterRoad x, int c, int... what) {
        int[] told = new int[what.length];
        for (int i = 0; i < what.length; i++) {
            told[i] = x.convoy(c, what[i]);
        }
        return told;
    }

    private static int[] liters(WinterRoad x) {
        int[] told = new int[x.about(6)];
        for (int v = 0; v < told.length; v++) {
            told[v] = x.vehicle(v, 3);
        }
        return told;
    }

    private static int[] members(WinterRoad x, int c) {
        int[] told = new int[x.convoy(c, 1)];
        for (int i = 0; i < told.length; i++) {
            told[i] = x.member(c, i);
        }
        return told;
    }

    private static void hoursFromZero() {
        Check.sentence("Terms", "Hours are numbered from 0.");
        WinterRoad x = Check.road("W10g01240100cv119999");
        x.pass(1);
        Check.dueEach("kilometer, waited, in hour 0", convoy(x, 0, 0, 4), 0, 1);
        x.pass(1);
        Check.dueEach("kilometer, waited, in hour 1", convoy(x, 0, 0, 4), 1, 1);
    }

    // ---- 1 to 3

    private static void noVehiclesOrAtTheEnd() {
        Check.sentence("Terms", "When an hour goes by, this happens for each convoy, ascending, that has vehicles"
                + " and has not come to the end of the road: 1.");
        WinterRoad x = Check.road("W10g01020100ccv919999");
        x.hold(0, 2);
        x.pass(3);
        Check.dueEach("without vehicles: kilometer, held, waited, stood", convoy(x, 0, 0, 3, 4, 5), 0, 2, 0, 0);
        x.pass(1);
        Check.dueEach("at the end: kilometer, held, waited, stood", convoy(x, 1, 0, 3, 4, 5), 10, 0, 1, 0);
        x.hold(1, 2);
        x.pass(3);
        Check.dueEach("at the end: held, waited, stood", convoy(x, 1, 3, 4, 5), 2, 1, 0);
        Check.due("burnt", x.vehicle(0, 6), 10);
    }

    private static void ascending() {
        Check.sentence("Terms", "for each convoy, ascending,");
        WinterRoad x = Check.road("W10d00001cv112000cv112000");
        x.pass(1);
        Check.dueEach("convoy 0: kilometer, stood", convoy(x, 0, 0, 5), 1, 0);
        Check.dueEach("convoy 1: kilometer, stood", convoy(x, 1, 0, 5), 0, 1);
    }

    private static void held() {
        Check.sentence("Terms", "If it is held, it is held for 1 hour less, and nothing else happens to it in this"
                + " hour.");
        WinterRoad x = Check.road("W10g02020100b011d00010cv112000v112020");
        x.hold(0, 1);
        x.pass(1);
        Check.dueEach("kilometer, held, stood, vehicles", convoy(x, 0, 0, 3, 5, 1), 0, 0, 0, 2);
        Check.due("depot", x.depot(0, 1), 10);
        x.pass(1);
        Check.dueEach("kilometer, held", convoy(x, 0, 0, 3), 1, 0);
        Check.due("depot then", x.depot(0, 1), 0);
        x.hold(0, 2);
        x.pass(1);
        Check.dueEach("at a closed gate: held, waited", convoy(x, 0, 3, 4), 1, 0);
        WinterRoad y = Check.road("W10b011cv112001v112020");
        y.pass(1);
        y.hold(0, 1);
        y.pass(1);
        Check.dueEach("at a bay: vehicles, stood", convoy(y, 0, 1, 5), 2, 0);
        y.pass(1);
        Check.due("held no more", y.convoy(0, 1), 1);
    }

    private static void filledUp() {
        Check.sentence("Terms", "is filled up as far as the liters of the depot go.");
        String vehicles = "cv112010v112015";
        Check.dueEach("enough and 1 more", depotAndLiters("W10d00016" + vehicles), 1, 19, 19);
        Check.dueEach("enough", depotAndLiters("W10d00015" + vehicles), 0, 19, 19);
        Check.dueEach("1 too few", depotAndLiters("W10d00014" + vehicles), 0, 19, 18);
        Check.dueEach("enough for the first", depotAndLiters("W10d00010" + vehicles), 0, 19, 14);
        Check.dueEach("too few for the first", depotAndLiters("W10d00009" + vehicles), 0, 18, 14);
        Check.dueEach("none", depotAndLiters("W10d00000" + vehicles), 0, 9, 14);
        Check.dueEach("for full tanks", depotAndLiters("W10d00999cv112020v119999"), 999, 19, 98);
        Check.dueEach("a kilometer ahead", depotAndLiters("W10d01999" + vehicles), 999, 9, 14);
    }

    private static int[] depotAndLiters(String text) {
        WinterRoad x = Check.road(text);
        x.pass(1);
        return new int[] {x.depot(0, 1), x.vehicle(0, 3), x.vehicle(1, 3)};
    }

    /** Convoy 1 takes up vehicle 0 at kilometer 1 and comes to the depot as 2, 0, with 17 and 3 liters. */
    private static void filledUpInOrder() {
        Check.sentence("Terms", "If there is a depot at its kilometer, each of its vehicles, in its order,");
        WinterRoad x = Check.road("W20b012d03015cv942005v919999cv313030");
        x.pass(1);
        Check.dueEach("order", members(x, 1), 2, 0);
        Check.dueEach("liters", liters(x), 3, 90, 17);
        x.pass(1);
        Check.due("depot", x.depot(0, 1), 0);
        Check.dueEach("the first got 13, the second 2; both went 1 kilometer", liters(x), 1, 81, 29);
    }

    private static void slowest() {
        Check.sentence("Terms", "Let s be the speed of its slowest vehicle, as it is then (who is left or joins"
                + " later in this hour does not matter).");
        WinterRoad x = Check.road("W20b011cv212001v919999");
        x.pass(1);
        Check.dueEach("the slow one is left: kilometer, vehicles, speed", convoy(x, 0, 0, 1, 2), 2, 1, 9);
        x.pass(1);
        Check.due("kilometer then", x.convoy(0, 0), 11);
        x = Check.road("W20b011cv112001v919999cv919999");
        x.pass(2);
        Check.dueEach("left late: kilometer, vehicles", convoy(x, 0, 0, 1), 2, 1);
        x = Check.road("W20b011cv112001cv919999");
        x.hold(1, 2);
        x.pass(3);
        Check.dueEach("a slow one joins: kilometer, vehicles, speed", convoy(x, 1, 0, 1, 2), 9, 2, 1);
        x.pass(1);
        Check.due("kilometer then", x.convoy(1, 0), 10);
    }

    private static void asManySteps() {
        Check.sentence("Terms", "Up to s times, this happens:");
        WinterRoad x = Check.road("W20cv119999cv919999cv919999v219999");
        x.pass(1);
        Check.due("speed 1", x.convoy(0, 0), 1);
        Check.due("speed 9", x.convoy(1, 0), 9);
        Check.due("speeds 9 and 2", x.convoy(2, 0), 2);
    }

    // ---- a

    private static void closedGate() {
        Check.sentence("Terms", "If a gate at the next kilometer is closed in this hour, the convoy waits, and the"
                + " hour is over for it.");
        WinterRoad x = Check.road("W10g02242300b011cv919901v119999");
        x.pass(1);
        Check.dueEach("2 kilometers away: kilometer, waited", convoy(x, 0, 0, 4), 1, 0);
        x.pass(1);
        Check.dueEach("nobody is left at a gate: kilometer, vehicles, waited, stood", convoy(x, 0, 0, 1, 4, 5),
                1, 2, 1, 0);
        x = Check.road("W10g03242300cv919999");
        x.pass(1);
        Check.dueEach("behind 2 kilometers: kilometer, waited", convoy(x, 0, 0, 4), 2, 1);
        x = Check.road("W10cv319999");
        x.pass(1);
        x.addGate(3, 24, 23, 0);
        x.pass(1);
        Check.dueEach("at its own kilometer: kilometer, waited", convoy(x, 0, 0, 4), 6, 0);
    }

    private static void gateOfThisHour() {
        Check.sentence("Terms", "is closed in this hour");
        WinterRoad x = Check.road("W10g01020101cv119999");
        x.pass(1);
        Check.dueEach("open now, closed in the next hour: kilometer, waited", convoy(x, 0, 0, 4), 1, 0);
        x = Check.road("W10g01020100cv119999");
        x.pass(1);
        Check.dueEach("closed now, open in the next hour: kilometer, waited", convoy(x, 0, 0, 4), 0, 1);
    }

    // ---- b

    private static void tooFewLiters() {
        Check.sentence("Terms", "Each of its vehicles, in its order, with fewer liters than its use is left in the"
                + " bay at this kilometer");
        for (int use = 1; use <= 4; use++) {
            WinterRoad x = Check.road("W10b011cv1" + use + "200" + 2 * use);
            x.pass(2);
            Check.due("as many as its use of " + use + " is enough", x.convoy(0, 0), 2);
            x = Check.road("W10b011cv1" + use + "200" + (2 * use - 1));
            x.pass(2);
            Check.dueEach("1 less: kilometer, vehicles", convoy(x, 0, 0, 1), 1, 0);
            Check.dueEach("1 less: vehicle in bay", new int[] {x.vehicle(0, 4), x.vehicle(0, 5), x.bay(0, 2)}, 1, 0, 1);
        }
    }

    private static void freePlaces() {
        Check.sentence("Terms", "if there is one with a free place.");
        String three = "v112001v112001v112001";
        int[][] dues = {{1, 2, 1, 1}, {2, 1, 1, 1}, {3, 0, 1, 1}, {4, 0, 1, 1}};
        for (int[] due : dues) {
            WinterRoad x = Check.road("W10b01" + due[0] + "c" + three);
            x.pass(2);
            Check.dueEach(due[0] + " places: vehicles, kilometer, stood", convoy(x, 0, 1, 0, 5),
                    due[1], due[2], due[3]);
            Check.due("in the bay", x.bay(0, 2), 3 - due[1]);
        }
        WinterRoad x = Check.road("W10b02" + 6 + "c" + three);
        x.pass(2);
        Check.dueEach("a kilometer ahead: vehicles, kilometer, stood", convoy(x, 0, 1, 0, 5), 3, 1, 1);
    }

    private static void behindThoseThere() {
        Check.sentence("Terms", "behind those there,");
        WinterRoad x = Check.road("W20b012cv122003cv112001");
        x.hold(0, 1);
        x.pass(2);
        Check.dueEach("vehicle 1 is left: first, in the bay", new int[] {x.bay(0, 3), x.bay(0, 2)}, 1, 1);
        x.pass(1);
        Check.dueEach("vehicle 0 behind it: first, in the bay", new int[] {x.bay(0, 3), x.bay(0, 2)}, 1, 2);
        x = Check.road("W20b012cv112001v112001");
        x.pass(2);
        Check.dueEach("both in one hour: first, in the bay", new int[] {x.bay(0, 3), x.bay(0, 2)}, 0, 2);
    }

    /** Convoy 1 takes up vehicle 0 and comes to kilometer 3 as 2, 0, with 1 and 0 liters: one place is there. */
    private static void leftInOrder() {
        Check.sentence("Terms", "Each of its vehicles, in its order, with fewer liters");
        WinterRoad x = Check.road("W20b012b031cv942005v919999cv333017");
        x.pass(1);
        Check.dueEach("order", members(x, 1), 2, 0);
        Check.dueEach("liters", liters(x), 0, 90, 1);
        x.pass(1);
        Check.dueEach("in bay 1, in convoy 1", new int[] {x.bay(1, 3), x.member(1, 0)}, 2, 0);
    }

    private static void stands() {
        Check.sentence("Terms", "If there is one still in the convoy then that has too few liters, the convoy"
                + " stands, and the hour is over for it");
        WinterRoad x = Check.road("W10cv919999v942003");
        x.pass(2);
        Check.dueEach("1 liter too few: kilometer, stood, waited", convoy(x, 0, 0, 5, 4), 0, 2, 0);
        x = Check.road("W10cv919999v942004");
        x.pass(1);
        Check.dueEach("just enough for one: kilometer, stood", convoy(x, 0, 0, 5), 1, 1);
        x = Check.road("W10b011cv919999v912001v912001");
        x.pass(1);
        Check.dueEach("one is left, one is not: vehicles, kilometer, stood", convoy(x, 0, 1, 0, 5), 2, 1, 1);
    }

    private static void standsWithoutVehicles() {
        Check.sentence("Terms", "it stands likewise if no vehicle is left in it.");
        WinterRoad x = Check.road("W10b012cv212001v212001");
        x.pass(1);
        Check.dueEach("vehicles, kilometer, stood", convoy(x, 0, 1, 0, 5), 0, 1, 1);
        x.pass(5);
        Check.dueEach("later: vehicles, kilometer, stood, at the end", convoy(x, 0, 1, 0, 5, 7), 0, 1, 1, 0);
        Check.due("a vehicle is added", x.addVehicle(0, 3, 1, 99, 99), 2);
        x.pass(1);
        Check.dueEach("and goes on: kilometer, vehicles", convoy(x, 0, 0, 1), 4, 1);
    }

    // ---- c, d

    private static void goesOn() {
        Check.sentence("Terms", "It goes on by 1 kilometer; each of its vehicles burns its use.");
        WinterRoad x = Check.road("W10cv112001v149904");
        x.pass(1);
        Check.due("kilometer", x.convoy(0, 0), 1);
        Check.dueEach("to the last liter", liters(x), 0, 0);
        Check.dueEach("burnt", new int[] {x.vehicle(0, 6), x.vehicle(1, 6), x.about(11)}, 1, 4, 5);
    }

    private static void arrives() {
        Check.sentence("Terms", "If this is the end of the road, all its vehicles arrive, and the hour is over for"
                + " it.");
        WinterRoad x = Check.road("W10d10099cv919910v929999");
        Check.due("arrive in the first hour", x.pass(1), 0);
        Check.dueEach("1 ahead: kilometer, at the end", convoy(x, 0, 0, 7), 9, 0);
        Check.due("arrive in the second", x.pass(1), 2);
        Check.dueEach("kilometer, at the end, vehicles, stood", convoy(x, 0, 0, 7, 1, 5), 10, 1, 0, 0);
        Check.dueEach("liters, the first without", liters(x), 0, 79);
        Check.due("nobody is filled up there", x.depot(0, 1), 99);
        x = Check.road("W10b091cv512009v519999cv519999");
        x.pass(2);
        Check.due("the bay ahead of the end", x.vehicle(0, 4), 2);
    }

    // ---- e

    /** Vehicle 0, of use 4, is left in bay 0 at kilometer 1 with so many liters; 1 goes away; then come others. */
    private static WinterRoad left(int liters, String next) {
        WinterRoad x = Check.road("W20b012cv94200" + (4 + liters) + "v919999" + next);
        x.pass(1);
        return x;
    }

    private static void emptyBay() {
        Check.sentence("Terms", "If there is a bay at this kilometer with vehicles in it");
        WinterRoad x = Check.road("W20b016b022cv919999v219999v119999");
        x.pass(2);
        Check.dueEach("empty bays change no order", members(x, 0), 0, 1, 2);
        Check.dueEach("nor liters", liters(x), 97, 97, 97);
        x = left(1, "cv119999");
        Check.dueEach("a bay with one", members(x, 1), 2, 0);
    }

    private static void eightInAConvoy() {
        Check.sentence("Terms", "and the convoy has fewer than 8 vehicles, the first of these gets fuel");
        WinterRoad x = left(1, "c" + SEVEN);
        Check.dueEach("with 7: vehicles, in the bay", new int[] {x.convoy(1, 1), x.bay(0, 2)}, 8, 0);
        Check.due("it got 10", x.vehicle(0, 3), 11);
        x = left(1, "c" + SEVEN + "v119999");
        Check.dueEach("with 8: vehicles, in the bay", new int[] {x.convoy(1, 1), x.bay(0, 2)}, 8, 1);
        Check.due("it got nothing", x.vehicle(0, 3), 1);
        Check.due("nobody gave", x.convoy(1, 6), 8 * 98);
        x = Check.road("W20b012cv942005v942005v919999c" + SEVEN);
        x.pass(1);
        Check.dueEach("two with 7: vehicles, in the bay", new int[] {x.convoy(1, 1), x.bay(0, 2)}, 8, 1);
        Check.dueEach("the second got nothing", new int[] {x.vehicle(0, 3), x.vehicle(1, 3), x.bay(0, 3)}, 11, 1, 1);
    }

    private static void mostLiters() {
        Check.sentence("Terms", "the vehicle of the convoy with the most liters, among several the first in the"
                + " order, gives it");
        Check.dueEach("the last has most", liters(left(0, "cv119930v119930v119931")), 10, 90, 29, 29, 20);
        Check.dueEach("the first has most", liters(left(0, "cv119931v119930v119930")), 10, 90, 20, 29, 29);
        Check.dueEach("the first of two", liters(left(0, "cv119930v119931v119931")), 10, 90, 29, 20, 30);
        WinterRoad x = Check.road("W20b012b022cv942004v912002v919999cv243020");
        x.pass(1);
        Check.dueEach("at kilometer 2 both 3 and 0 have 4, 3 is the first", liters(x), 4, 2, 90, 2);
    }

    private static void halfAtMostTen() {
        Check.sentence("Terms", "half of its liters, rounded down, but at most 10 and no more than its tank takes.");
        int[][] dues = {{21, 10, 11}, {20, 10, 10}, {19, 9, 10}, {18, 9, 9}, {3, 1, 2}, {2, 1, 1}, {1, 0, 1},
            {0, 0, 0}};
        for (int[] due : dues) {
            int full = due[0] + 1;
            WinterRoad x = left(0, "cv1199" + full / 10 + full % 10);
            Check.due("of " + due[0] + " it gets", x.vehicle(0, 3), due[1]);
            Check.due("of " + due[0] + " are left", x.vehicle(2, 3), due[2]);
        }
        // The tank never takes less: the most that can come together are 3 + 10 liters, in a tank for 20.
        Check.due("the most", left(3, "cv119999").vehicle(0, 3), 13);
    }

    private static void asManyAsItsUse() {
        Check.sentence("Terms", "If it has as many liters as its use then, it joins the convoy at the end");
        WinterRoad x = left(1, "cv119907");
        Check.dueEach("1 + 3 are enough: in convoy 1, liters", whereAndLiters(x), 0, 1, 4);
        x = left(1, "cv119906");
        Check.dueEach("1 + 2 are too few: in bay 0, liters", whereAndLiters(x), 1, 0, 3);
        x = left(0, "cv119909");
        Check.dueEach("0 + 4 are enough: in convoy 1, liters", whereAndLiters(x), 0, 1, 4);
        x = left(3, "cv119903");
        Check.dueEach("3 + 1 are enough: in convoy 1, liters", whereAndLiters(x), 0, 1, 4);
        x = left(3, "cv119902");
        Check.dueEach("3 + 0 are too few: in bay 0, liters", whereAndLiters(x), 1, 0, 3);
    }

    private static int[] whereAndLiters(WinterRoad x) {
        return new int[] {x.vehicle(0, 4), x.vehicle(0, 5), x.vehicle(0, 3)};
    }

    /** Vehicle 0 of use 4 and then 1 of use 1 are left in the bay with 1 and 0 liters. */
    private static WinterRoad leftTwo(String next) {
        WinterRoad x = Check.road("W20b012cv942005v912001v919999" + next);
        x.pass(1);
        return x;
    }

    private static void nextOne() {
        Check.sentence("Terms", "and the same is done with the next one; otherwise no more are helped.");
        WinterRoad x = leftTwo("cv119910");
        Check.dueEach("9 give 4, then 5 give 2: liters", liters(x), 5, 2, 90, 3);
        Check.dueEach("both join", new int[] {x.vehicle(0, 5), x.vehicle(1, 5), x.bay(0, 2)}, 1, 1, 0);
        x = leftTwo("cv119906");
        Check.dueEach("5 give 2, too few for the first: liters", liters(x), 3, 0, 90, 3);
        Check.dueEach("in the bay, first there", new int[] {x.bay(0, 2), x.bay(0, 3)}, 2, 0);
    }

    private static void joinedOneGives() {
        Check.sentence("Terms", "it joins the convoy at the end, and the same is done with the next one");
        WinterRoad x = Check.road("W20b012cv942007v912001v919999cv119917");
        x.pass(1);
        Check.dueEach("16 give 8, then the joined one of 11 gives 5", liters(x), 6, 5, 90, 8);
        x = Check.road("W20b012cv942004v912001v919999cv119922");
        x.pass(1);
        Check.dueEach("21 give 10, then 11 give 5, not the joined one's 10", liters(x), 10, 5, 90, 6);
    }

    private static void order() {
        Check.sentence("Terms", "If at least one has joined, the convoy puts itself in the order of the speeds,"
                + " slow ones first, then of the numbers.");
        Check.dueEach("one joined", members(left(0, "cv919950v119920v919920v119920"), 1), 3, 5, 0, 2, 4);
        Check.dueEach("none joined, but one was helped", members(left(0, "cv919905v119904"), 1), 2, 3);
        WinterRoad x = Check.road("W20b012cv919950v119920");
        x.pass(1);
        Check.dueEach("nobody there", members(x, 0), 0, 1);
    }

    // ---- behind them

    private static void allLiters() {
        Check.sentence("Terms", "All liters that there were at first are in tanks, in depots, or burnt.");
        WinterRoad x = Check.road("W30b012b052d03040d09100g04050200cv942005v132020v919999cv312008v123015cv142020");
        int all = 5 + 20 + 99 + 8 + 15 + 20 + 40 + 100;
        for (int h = 0; h < 40; h++) {
            Check.due("liters in hour " + h, x.about(9) + x.about(10) + x.about(11), all);
            x.pass(1);
        }
        Check.due("nobody is nowhere", x.about(7) + x.about(8) + x.convoy(0, 1) + x.convoy(1, 1) + x.convoy(2, 1), 6);
        Check.due("no member", x.member(2, 7), NONE);
    }
}
