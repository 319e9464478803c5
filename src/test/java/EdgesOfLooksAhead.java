/** The edges that promises 22 to 25 name, sentence by sentence. */
final class EdgesOfLooksAhead {
    private static final int NONE = WinterRoad.NONE;
    private static final int[] NO_SUCH = {Integer.MIN_VALUE, -9, -1, 1, 4, 1 << 30, Integer.MAX_VALUE};
    /**
     * Gates that are open for one hour a day: whoever starts in hour 23 at speed 1 comes to each of them
     * when it was just closed, goes through in the hours 46, 88, 131 and 173, and arrives in hour 174.
     */
    private static final String LONG_WAY = "W60g01242301g20242307g40242312g59242318";

    private EdgesOfLooksAhead() {
    }

    static void run() {
        noConvoyToArrive();
        arrives();
        arrivesLate();
        arrivesNever();
        noConvoyToLeave();
        leaves();
        leavesFirst();
        leavesLate();
        leavesWhoJoined();
        leavesNobody();
        noConvoyToHold();
        bestHold();
        bestHoldOfSeveral();
        bestHoldAtTheEnd();
        bestHoldOfSomeAndNone();
        noDepotToLack();
        lacks();
        lacksBeyondFull();
        lacksNothing();
        lacksInTime();
        lacksMoreThanFuel();
    }

    // ---- arrives

    private static void noConvoyToArrive() {
        Check.sentence("Promise 22", "Throws `IndexOutOfBoundsException` if there is no such convoy");
        WinterRoad x = Check.road("W10cv119999");
        for (int c : NO_SUCH) {
            Check.badIndex("arrives(" + c + ")", () -> x.arrives(c));
        }
        Check.badIndex("of none", () -> new WinterRoad().arrives(0));
    }

    private static void arrives() {
        Check.sentence("Promise 22", "Returns the smallest number of hours, 0 to 300, behind which it has come to"
                + " the end of the road");
        WinterRoad x = Check.road("W10cv919999cv519999cv419999");
        Check.due("10 kilometers at 9", x.arrives(0), 2);
        Check.due("10 kilometers at 5", x.arrives(1), 2);
        Check.due("10 kilometers at 4", x.arrives(2), 3);
        x.pass(1);
        Check.due("an hour later", x.arrives(0), 1);
        x.pass(1);
        Check.due("at the end", x.arrives(0), 0);
        Check.due("with an hour to go", x.arrives(2), 1);
        x.pass(99);
        Check.due("long at the end", x.arrives(2), 0);
    }

    /**
     * No convoy needs as much as 300 hours: it is held for 23, goes for 60 and waits for 23 at each of 4
     * gates at the most. (It can also stand until another one makes room in a bay, which then had that way.)
     */
    private static void arrivesLate() {
        Check.sentence("Promise 22", "0 to 300");
        WinterRoad x = Check.road(LONG_WAY + "cv119999");
        x.hold(0, 23);
        Check.due("23 + 60 + 4 * 23", x.arrives(0), 175);
        x.pass(99);
        Check.due("behind 99 hours", x.arrives(0), 76);
        x.pass(75);
        Check.due("1 hour ahead", x.arrives(0), 1);
    }

    private static void arrivesNever() {
        Check.sentence("Promise 22", "NONE if there is none.");
        WinterRoad x = Check.road("W10b011cv119909cv119910ccv942007");
        Check.due("1 liter too few", x.arrives(0), NONE);
        Check.due("just enough", x.arrives(1), 10);
        Check.due("without vehicles", x.arrives(2), NONE);
        Check.due("all are left in a bay", x.arrives(3), NONE);
        x.pass(99);
        Check.due("it stands", x.arrives(0), NONE);
        Check.due("it arrived", x.arrives(1), 0);
        x.hold(0, 23);
        Check.due("it is held, and will stand", x.arrives(0), NONE);
    }

    // ---- leaves

    private static void noConvoyToLeave() {
        Check.sentence("Promise 23", "Throws `IndexOutOfBoundsException` if there is no such convoy");
        WinterRoad x = Check.road("W10cv119999");
        for (int c : NO_SUCH) {
            Check.badIndex("leaves(" + c + ")", () -> x.leaves(c));
        }
        Check.badIndex("of none", () -> new WinterRoad().leaves(0));
    }

    private static void leaves() {
        Check.sentence("Promise 23", "Returns 100 * (the bay) + (the vehicle)");
        Check.due("the first of each", Check.road("W10b011cv119901").leaves(0), 0);
        String eight = "v119999".repeat(8);
        WinterRoad x = Check.road("W10b021b031b041b051b061c" + eight + "c" + eight.substring(7));
        x.addBay(1, 1);
        x.addVehicle(1, 1, 1, 99, 1);
        Check.due("the last of each", x.leaves(1), 515);
        Check.due("the other convoy", x.leaves(0), NONE);
        x.pass(1);
        Check.due("in the next hour", x.leaves(1), 515);
        x.pass(1);
        Check.due("it is left", x.leaves(1), NONE);
    }

    private static void leavesFirst() {
        Check.sentence("Promise 23", "of the first vehicle of it that is left in a bay");
        Check.due("in one hour, by the order", Check.road("W20b051b022cv919999v132006v119902").leaves(0), 101);
        Check.due("by the time, not the order", Check.road("W20b051b022cv919999v119905v132006").leaves(0), 102);
        Check.due("not of another convoy", Check.road("W20b011b031cv942004cv919905").leaves(1), 101);
    }

    private static void leavesLate() {
        Check.sentence("Promise 23", "in the next 300 hours");
        WinterRoad x = Check.road(LONG_WAY + "b011b591cv119959");
        x.hold(0, 23);
        Check.due("in hour 174", x.leaves(0), 100);
        x.pass(99);
        x.pass(75);
        Check.due("ahead of it", x.leaves(0), 100);
        x.pass(1);
        Check.due("behind it", x.leaves(0), NONE);
    }

    private static void leavesWhoJoined() {
        Check.sentence("Promise 23", "(it may have joined it before)");
        WinterRoad x = Check.road("W20b012b022cv942005v919999cv312008");
        Check.due("the one that left it", x.leaves(0), 0);
        Check.due("the one that took it up", x.leaves(1), 100);
    }

    private static void leavesNobody() {
        Check.sentence("Promise 23", "NONE if none is.");
        Check.due("no bay", Check.road("W10cv919901").leaves(0), NONE);
        Check.due("a bay elsewhere", Check.road("W10b021cv919901").leaves(0), NONE);
        Check.due("enough fuel", Check.road("W10b011b091cv919910").leaves(0), NONE);
        Check.due("no vehicles", Check.road("W10b011c").leaves(0), NONE);
        WinterRoad full = Check.road("W10b011cv119901cv119901");
        Check.due("the first takes the place", full.leaves(0), 0);
        Check.due("no place", full.leaves(1), NONE);
        WinterRoad x = Check.road("W10b091cv919910");
        x.pass(2);
        Check.due("it arrived", x.leaves(0), NONE);
    }

    // ---- bestHold

    private static void noConvoyToHold() {
        Check.sentence("Promise 24", "Throws `IndexOutOfBoundsException` if there is no such convoy");
        WinterRoad x = Check.road("W10cv119999");
        for (int c : NO_SUCH) {
            Check.badIndex("bestHold(" + c + ")", () -> x.bestHold(c));
        }
        Check.badIndex("of none", () -> new WinterRoad().bestHold(0));
    }

    private static void bestHold() {
        Check.sentence("Promise 24", "Returns the number of hours, 0 to 23, for which it should be held from now"
                + " on, so that it is on its way for the fewest hours: arrives(c) with it, less these hours");
        WinterRoad x = Check.road("W10g01242300cv119999");
        Check.due("the gate opens in hour 23", x.bestHold(0), 23);
        x.pass(1);
        Check.due("an hour later", x.bestHold(0), 22);
        x.hold(0, 5);
        Check.due("however long it is held", x.bestHold(0), 22);
        x.pass(22);
        Check.due("the gate is open", x.bestHold(0), 0);
        // With 24 hours it would find both gates open, with 23 it waits for 1, with 0 for 4.
        Check.due("24 are too many", Check.road("W10g01242323g02050404cv119999").bestHold(0), 23);
    }

    private static void bestHoldOfSeveral() {
        Check.sentence("Promise 24", "among several the smallest");
        Check.due("all alike", Check.road("W10cv119999").bestHold(0), 0);
        Check.due("2, 3, 6, 7 and so on", Check.road("W10g01040200cv119999").bestHold(0), 2);
    }

    private static void bestHoldAtTheEnd() {
        Check.sentence("Promise 24", "0 if it has come to the end of the road");
        WinterRoad x = Check.road("W10g01242300cv919999");
        x.pass(25);
        Check.due("at the end", x.convoy(0, 7), 1);
        x.hold(0, 7);
        Check.due("bestHold", x.bestHold(0), 0);
    }

    private static void bestHoldOfSomeAndNone() {
        Check.sentence("Promise 24", "NONE if it arrives with none of them.");
        Check.due("too few liters", Check.road("W10cv119909").bestHold(0), NONE);
        Check.due("just enough", Check.road("W10cv119910").bestHold(0), 0);
        Check.due("no vehicles", Check.road("W10c").bestHold(0), NONE);
        // If convoy 0 goes ahead it takes up vehicle 2, and both stay on the way; an hour later, 1 has done so.
        WinterRoad x = Check.road("W10b011cv119911cv119999cv912001");
        x.hold(0, 1);
        x.hold(1, 1);
        x.pass(1);
        Check.due("as it is", x.arrives(0), NONE);
        Check.due("with the others it does", x.bestHold(0), 1);
    }

    // ---- lacks

    private static void noDepotToLack() {
        Check.sentence("Promise 25", "Throws `IndexOutOfBoundsException` if there is no such depot");
        WinterRoad x = Check.road("W10d00000cv119999");
        for (int d : NO_SUCH) {
            Check.badIndex("lacks(" + d + ")", () -> x.lacks(d));
        }
        Check.badIndex("of none", () -> new WinterRoad().lacks(0));
    }

    private static void lacks() {
        Check.sentence("Promise 25", "Returns the smallest number of liters, 0 to 40, by which it would have to"
                + " have more now");
        Check.due("40 of 40", Check.road("W15d05040cv549920").lacks(0), 0);
        Check.due("39 of 40", Check.road("W15d05039cv549920").lacks(0), 1);
        Check.due("0 of 40", Check.road("W15d05000cv549920").lacks(0), 40);
        Check.due("4 of 44", Check.road("W16d05004cv549920").lacks(0), 40);
        Check.due("3 of 44", Check.road("W16d05003cv549920").lacks(0), NONE);
        Check.due("0 of 44", Check.road("W16d05000cv549920").lacks(0), NONE);
    }

    private static void lacksBeyondFull() {
        Check.sentence("Promise 25", "(also beyond 999)");
        String ten = "c" + "v119900".repeat(8) + "cv119900v119900";
        WinterRoad x = Check.road("W10d00999" + ten + "v112000");
        Check.due("990 and 10 of 999", x.lacks(0), 1);
        Check.due("liters", x.depot(0, 1), 999);
        x = Check.road("W10d00999" + ten + "v132000v122000");
        Check.due("20 are too few for use 3", x.lacks(0), NONE);
        x = Check.road("W10d00999" + ten + "v122000v122000");
        Check.due("990, 20 and 20 of 999", x.lacks(0), 31);
    }

    private static void lacksNothing() {
        Check.sentence("Promise 25", "so that all vehicles would have arrived");
        WinterRoad x = Check.road("W10d00000cc");
        Check.due("no vehicles", x.lacks(0), 0);
        x.addVehicle(1, 9, 1, 20, 10);
        Check.due("one with enough", x.lacks(0), 0);
        x.pass(2);
        Check.due("it arrived", x.lacks(0), 0);
        x.addVehicle(0, 9, 1, 20, 9);
        Check.due("one with 1 too few", x.lacks(0), 1);
    }

    private static void lacksInTime() {
        Check.sentence("Promise 25", "in 300 hours");
        WinterRoad x = Check.road(LONG_WAY + "d00000cv119959");
        x.hold(0, 23);
        Check.due("175 hours are enough", x.lacks(0), 1);
    }

    private static void lacksMoreThanFuel() {
        Check.sentence("Promise 25", "NONE if there is none.");
        WinterRoad x = Check.road("W10d02000d01000b011cv112001");
        Check.due("fuel is too far", x.lacks(0), NONE);
        Check.due("9 are enough at 1", x.lacks(1), 9);
        x.pass(2);
        Check.due("it is in a bay", x.lacks(1), NONE);
        x = Check.road("W10d00000cv112009cv942003");
        Check.due("1 for one, 17 and more for the other, whose tank is too small", x.lacks(0), NONE);
    }
}
