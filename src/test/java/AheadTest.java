/** Promises 22 to 25: arrives, leaves, bestHold, lacks. */
public final class AheadTest {
    private static final int NONE = WinterRoad.NONE;

    public static void main(String[] args) {
        wrongNumbers();
        arrives();
        leaves();
        leavesWhomItRescued();
        bestHold();
        bestHoldOfOthers();
        lacks();
        lacksAtTheEdges();
        lacksBeyondFull();
        changeNothing();
        Check.end();
    }

    private static void wrongNumbers() {
        WinterRoad x = Check.road("W10d00000cccd01000");
        for (int i : new int[] {-1, 3, Integer.MIN_VALUE, Integer.MAX_VALUE}) {
            Check.badIndex("arrives(" + i + ")", () -> x.arrives(i));
            Check.badIndex("leaves(" + i + ")", () -> x.leaves(i));
            Check.badIndex("bestHold(" + i + ")", () -> x.bestHold(i));
            Check.badIndex("lacks(" + i + ")", () -> x.lacks(i));
        }
        Check.badIndex("lacks(2)", () -> x.lacks(2));
        Check.due("lacks(1), no vehicles", x.lacks(1), 0);
    }

    private static void arrives() {
        WinterRoad x = Check.road("W10cv319999ccv319909cv319910");
        Check.due("arrives(0)", x.arrives(0), 4);
        Check.due("arrives(1), without vehicles", x.arrives(1), NONE);
        Check.due("arrives(2), 1 liter too few", x.arrives(2), NONE);
        Check.due("arrives(3), just enough", x.arrives(3), 4);
        x.hold(0, 23);
        Check.due("arrives(0), held", x.arrives(0), 27);
        x.hold(0, 0);
        x.pass(3);
        Check.due("arrives(0), last hour", x.arrives(0), 1);
        x.pass(1);
        Check.due("arrives(0), there", x.arrives(0), 0);
        WinterRoad y = Check.road("W60g01242300g20242300g40242300g59242300cv119999");
        y.hold(0, 23);
        Check.due("a long way", y.arrives(0), arrivesByPassing(y));
    }

    private static int arrivesByPassing(WinterRoad x) {
        int hours = 0;
        x.save(0);
        while (x.convoy(0, 7) == 0) {
            x.pass(1);
            hours++;
        }
        x.restore(0);
        return hours;
    }

    private static void leaves() {
        WinterRoad x = Check.road("W20b051b022cv919999v132006v119902");
        Check.due("leaves(0), the first on the way", x.leaves(0), 101);
        x = Check.road("W20b051b022cv919999v119905v132006");
        Check.due("leaves(0), by the order", x.leaves(0), 102);
        x.pass(3);
        Check.due("leaves(0), the next one", x.leaves(0), 1);
        x.pass(99);
        Check.due("leaves(0), nobody more", x.leaves(0), NONE);
        x = Check.road("W20cv919901");
        Check.due("leaves(0) without a bay", x.leaves(0), NONE);
        x = Check.road("W20b011ccv119901");
        x.hold(1, 23);
        Check.due("leaves(0) without vehicles", x.leaves(0), NONE);
        Check.due("leaves(1), late", x.leaves(1), 0);
    }

    private static void leavesWhomItRescued() {
        WinterRoad x = Check.road("W20b012b022cv942005v919999cv312008");
        Check.due("leaves(0)", x.leaves(0), 0);
        Check.due("leaves(1), whom it rescued", x.leaves(1), 100);
    }

    private static void bestHold() {
        WinterRoad x = Check.road("W10g03241000cv119999c");
        Check.due("arrives(0)", x.arrives(0), 18);
        Check.due("bestHold(0)", x.bestHold(0), 8);
        Check.due("bestHold(1), without vehicles", x.bestHold(1), NONE);
        x.hold(0, 5);
        Check.due("bestHold(0), held already", x.bestHold(0), 8);
        x.pass(18);
        Check.due("bestHold(0), gate far behind", x.bestHold(0), 0);
        x.pass(18);
        Check.due("it is there", x.convoy(0, 7), 1);
        Check.due("bestHold(0), there", x.bestHold(0), 0);
        x = Check.road("W10cv119909");
        Check.due("bestHold(0), never there", x.bestHold(0), NONE);
        x = Check.road("W10g01242300cv119999");
        Check.due("bestHold(0), the longest", x.bestHold(0), 23);
    }

    private static void bestHoldOfOthers() {
        WinterRoad x = Check.road("W10d00020cv119900cv112000v112000");
        Check.due("bestHold(0), only what is there first", x.bestHold(0), 0);
        Check.due("bestHold(1), the fuel goes to the other", x.bestHold(1), NONE);
    }

    private static void lacks() {
        WinterRoad x = Check.road("W20d05007d03999cv526010");
        Check.due("lacks(0)", x.lacks(0), 23);
        Check.due("lacks(1), never there", x.lacks(1), NONE);
        x = Check.road("W20d05030cv526010");
        Check.due("lacks(0), just enough", x.lacks(0), 0);
        x.supply(0, 100);
        Check.due("lacks(0), more than enough", x.lacks(0), 0);
        x.pass(99);
        Check.due("lacks(0), all there", x.lacks(0), 0);
    }

    private static void lacksAtTheEdges() {
        Check.due("40 liters", Check.road("W15d05000cv549920").lacks(0), 40);
        Check.due("44 liters", Check.road("W16d05000cv549920").lacks(0), NONE);
        Check.due("41 liters", Check.road("W16d05003cv549920").lacks(0), NONE);
        Check.due("43 of 44", Check.road("W16d05004cv549920").lacks(0), 40);
        WinterRoad x = Check.road("W10b011cv112001v112020");
        x.addDepot(0, 0);
        x.pass(3);
        Check.due("who is in a bay stays there", x.lacks(0), NONE);
    }

    private static void lacksBeyondFull() {
        String eight = "v119900v119900v119900v119900v119900v119900v119900v119900";
        WinterRoad x = Check.road("W10d00999c" + eight + "cv119900v119900v112000");
        Check.due("1000 liters", x.lacks(0), 1);
    }

    private static void changeNothing() {
        WinterRoad x = Check.road("W20b051b022d05001cv919999v132004v119901");
        x.pass(1);
        int burnt = x.about(11);
        x.arrives(0);
        x.leaves(0);
        x.bestHold(0);
        x.lacks(0);
        Check.due("hours", x.about(1), 1);
        Check.due("burnt", x.about(11), burnt);
        Check.due("kilometer", x.convoy(0, 0), 1);
        Check.due("held", x.convoy(0, 3), 0);
        Check.due("liters of the depot", x.depot(0, 1), 1);
        Check.due("one action is remembered", x.undo(), 0);
    }
}
