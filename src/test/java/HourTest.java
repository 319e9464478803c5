/** The terms "an hour" and "the road", as pass (promise 20) lets them be seen. */
public final class HourTest {
    private static final int NONE = WinterRoad.NONE;

    public static void main(String[] args) {
        goesAsSlowAsTheSlowest();
        arrivesAtTheEnd();
        isHeld();
        fillsUpInOrder();
        fillsUpOnlyAtTheStartOfAnHour();
        waitsAtAGate();
        waitsBehindSomeKilometers();
        waitsBeforeItLeaves();
        leavesWhileThereIsRoom();
        keepsTheSpeedOfTheHour();
        standsWithoutBay();
        rescues();
        rescuesUpToEight();
        putsItselfInOrder();
        givesAtMostTen();
        givesTooLittle();
        rescuesSeveral();
        rescuerIsLeft();
        convoysGoAscending();
        Check.end();
    }

    private static void goesAsSlowAsTheSlowest() {
        WinterRoad x = Check.road("W20cv529999v219990v939999");
        Check.due("pass(1)", x.pass(1), 0);
        Check.due("kilometer at speed 2", x.convoy(0, 0), 2);
        Check.due("liters at use 2", x.vehicle(0, 3), 95);
        Check.due("liters at use 1", x.vehicle(1, 3), 88);
        Check.due("burnt at use 3", x.vehicle(2, 6), 6);
        Check.due("burnt in all", x.about(11), 12);
        Check.due("in tanks", x.about(9), 276);
    }

    private static void arrivesAtTheEnd() {
        WinterRoad x = Check.road("W10cv419999v429999cv119999");
        Check.due("pass(2)", x.pass(2), 0);
        Check.due("pass(1) to the end", x.pass(1), 2);
        Check.due("kilometer", x.convoy(0, 0), 10);
        Check.due("its vehicles", x.convoy(0, 1), 0);
        Check.due("it is at the end", x.convoy(0, 7), 1);
        Check.due("the other is not", x.convoy(1, 7), 0);
        Check.due("burnt on 10 kilometers", x.vehicle(1, 6), 20);
        Check.due("vehicle 1 is", x.vehicle(1, 4), 2);
        Check.due("vehicle 1 is with", x.vehicle(1, 5), NONE);
        Check.due("pass(7)", x.pass(7), 1);
        Check.due("pass behind it", x.pass(99), 0);
        Check.due("hours", x.about(1), 109);
        Check.due("burnt by vehicle 0", x.vehicle(0, 6), 10);
    }

    private static void isHeld() {
        WinterRoad x = Check.road("W10d00100g01020100cv119900");
        x.hold(0, 2);
        x.pass(1);
        Check.due("held for", x.convoy(0, 3), 1);
        Check.due("waited", x.convoy(0, 4), 0);
        Check.due("depot", x.depot(0, 1), 100);
        x.pass(1);
        Check.due("held no more", x.convoy(0, 3), 0);
        Check.due("kilometer", x.convoy(0, 0), 0);
        x.pass(1);
        Check.due("filled up", x.vehicle(0, 3), 99);
        Check.due("waited then", x.convoy(0, 4), 1);
        x.addConvoy();
        x.hold(1, 5);
        x.pass(3);
        Check.due("without vehicles it stays held", x.convoy(1, 3), 5);
    }

    private static void fillsUpInOrder() {
        WinterRoad x = Check.road("W10d00047cv112010v113000v112010cv112000");
        x.pass(1);
        Check.due("first", x.vehicle(0, 3), 19);
        Check.due("second", x.vehicle(1, 3), 29);
        Check.due("third gets the rest", x.vehicle(2, 3), 16);
        Check.due("the next convoy gets none", x.vehicle(3, 3), 0);
        Check.due("depot", x.depot(0, 1), 0);
        Check.due("the next convoy stood", x.convoy(1, 5), 1);
    }

    private static void fillsUpOnlyAtTheStartOfAnHour() {
        WinterRoad x = Check.road("W10d01050d02050cv212002");
        x.pass(1);
        Check.due("depot passed", x.depot(0, 1), 50);
        Check.due("depot reached", x.depot(1, 1), 50);
        x.pass(1);
        Check.due("depot left", x.depot(1, 1), 30);
        Check.due("liters", x.vehicle(0, 3), 18);
    }

    private static void waitsAtAGate() {
        WinterRoad x = Check.road("W10g01030200cv119999");
        Check.due("closed", x.gate(0, 4), 1);
        x.pass(2);
        Check.due("kilometer", x.convoy(0, 0), 0);
        Check.due("waited", x.convoy(0, 4), 2);
        Check.due("open", x.gate(0, 4), 0);
        x.pass(1);
        Check.due("kilometer then", x.convoy(0, 0), 1);
        x.pass(1);
        Check.due("a gate behind does not matter", x.convoy(0, 0), 2);
        Check.due("waited then", x.convoy(0, 4), 2);
        Check.due("stood", x.convoy(0, 5), 0);
    }

    private static void waitsBehindSomeKilometers() {
        WinterRoad x = Check.road("W10g03020101g05020100cv519999");
        x.pass(1);
        Check.due("open in hour 0, the next is closed", x.convoy(0, 0), 4);
        Check.due("waited", x.convoy(0, 4), 1);
        x.pass(1);
        Check.due("kilometer", x.convoy(0, 0), 9);
        Check.due("waited no more", x.convoy(0, 4), 1);
    }

    private static void waitsBeforeItLeaves() {
        WinterRoad x = Check.road("W10g02050400b011cv119901");
        x.pass(4);
        Check.due("waited", x.convoy(0, 4), 3);
        Check.due("in bays", x.about(8), 0);
        x.pass(1);
        Check.due("in bays then", x.about(8), 1);
        Check.due("stood", x.convoy(0, 5), 1);
        Check.due("vehicles", x.convoy(0, 1), 0);
        Check.due("not at the end", x.convoy(0, 7), 0);
        x.pass(5);
        Check.due("stood without vehicles", x.convoy(0, 5), 1);
    }

    private static void leavesWhileThereIsRoom() {
        WinterRoad x = Check.road("W10b022cv122005v119950v122004v142009");
        x.pass(2);
        Check.due("kilometer", x.convoy(0, 0), 2);
        Check.due("not left yet", x.about(8), 0);
        x.pass(3);
        Check.due("in the bay", x.bay(0, 2), 2);
        Check.due("first there", x.bay(0, 3), 0);
        Check.due("vehicle 0 is", x.vehicle(0, 4), 1);
        Check.due("vehicle 0 is in bay", x.vehicle(0, 5), 0);
        Check.due("vehicle 2 is", x.vehicle(2, 4), 1);
        Check.due("vehicle 0 keeps", x.vehicle(0, 3), 1);
        Check.due("vehicle 3 is", x.vehicle(3, 4), 0);
        Check.due("first in order", x.member(0, 0), 1);
        Check.due("second in order", x.member(0, 1), 3);
        Check.due("stood", x.convoy(0, 5), 3);
        Check.due("kilometer then", x.convoy(0, 0), 2);
    }

    private static void keepsTheSpeedOfTheHour() {
        WinterRoad x = Check.road("W20b011cv212001v919999");
        x.pass(1);
        Check.due("kilometer", x.convoy(0, 0), 2);
        Check.due("speed then", x.convoy(0, 2), 9);
        x.pass(1);
        Check.due("kilometer then", x.convoy(0, 0), 11);
    }

    private static void standsWithoutBay() {
        WinterRoad x = Check.road("W10d02000b031cv212002v919999");
        x.pass(3);
        Check.due("kilometer", x.convoy(0, 0), 2);
        Check.due("stood", x.convoy(0, 5), 2);
        x.supply(0, 5);
        x.pass(1);
        Check.due("goes on", x.convoy(0, 0), 4);
        Check.due("vehicle 0", x.vehicle(0, 3), 3);
    }

    /** Vehicle 0 is left at kilometer 1 with 1 liter, of the 4 that it uses. */
    private static WinterRoad leftOne(String next) {
        WinterRoad x = Check.road("W20b012cv942005v919999" + next);
        x.pass(1);
        return x;
    }

    private static void rescues() {
        WinterRoad x = leftOne("cv312008v218008");
        Check.due("the rescued joins", x.vehicle(0, 5), 1);
        Check.due("it is in a convoy", x.vehicle(0, 4), 0);
        Check.due("the bay is empty", x.bay(0, 2), 0);
        Check.due("nobody there", x.bay(0, 3), NONE);
        Check.due("vehicles", x.convoy(1, 1), 3);
        Check.due("the giver, the first of two", x.vehicle(2, 3), 3);
        Check.due("the other", x.vehicle(3, 3), 6);
        Check.due("the rescued goes on at once", x.vehicle(0, 3), 0);
        Check.due("it burnt", x.vehicle(0, 6), 8);
    }

    private static void rescuesUpToEight() {
        String seven = "v119999v119999v119999v119999v119999v119999v119999";
        WinterRoad x = leftOne("c" + seven);
        Check.due("eighth", x.member(1, 7), 0);
        x = leftOne("c" + seven + "v119999");
        Check.due("no ninth", x.vehicle(0, 4), 1);
        Check.due("nor liters for it", x.vehicle(0, 3), 1);
    }

    private static void putsItselfInOrder() {
        WinterRoad x = leftOne("cv919950v219910v119910v919910");
        int[] order = {4, 3, 0, 2, 5};
        for (int i = 0; i < order.length; i++) {
            Check.due("place " + i, x.member(1, i), order[i]);
        }
        x = Check.road("W20b012cv919950v219910");
        x.pass(3);
        Check.due("without a rescue the order stays", x.member(0, 0), 0);
    }

    private static void givesAtMostTen() {
        WinterRoad x = leftOne("cv119930v119931");
        Check.due("the richest gives 10", x.vehicle(3, 3), 20);
        Check.due("the other none", x.vehicle(2, 3), 29);
        Check.due("the rescued", x.vehicle(0, 3), 11);
        x = leftOne("cv119921");
        Check.due("half of 20", x.vehicle(2, 3), 10);
        x = leftOne("cv119920");
        Check.due("half of 19", x.vehicle(2, 3), 10);
        Check.due("got 9", x.vehicle(0, 3), 10);
    }

    private static void givesTooLittle() {
        WinterRoad x = leftOne("cv119906cv119907");
        Check.due("it gave 2", x.vehicle(2, 3), 3);
        Check.due("the next gave 3", x.vehicle(3, 3), 3);
        Check.due("who has 6", x.vehicle(0, 3), 6);
        Check.due("and goes with the next", x.vehicle(0, 5), 2);
    }

    private static void rescuesSeveral() {
        WinterRoad x = Check.road("W20b013cv912001v942004v919999cv119921");
        x.pass(1);
        Check.due("two were left", x.convoy(0, 1), 1);
        Check.due("first joins", x.vehicle(0, 5), 1);
        Check.due("second joins", x.vehicle(1, 5), 1);
        Check.due("vehicle 3 gave 10", x.vehicle(3, 3), 5);
        Check.due("vehicle 0 got 10", x.vehicle(0, 3), 10);
        Check.due("vehicle 1 got 5 of those that 3 had", x.vehicle(1, 3), 5);
        x = Check.road("W20b013cv942005v912001v919999cv119904");
        x.pass(1);
        Check.due("the first gets too little", x.vehicle(0, 3), 2);
        Check.due("so the second gets none", x.vehicle(1, 3), 0);
        Check.due("order in the bay", x.bay(0, 3), 0);
    }

    private static void rescuerIsLeft() {
        WinterRoad x = leftOne("cv242012");
        Check.due("the giver had 8, 4 are too few for 2 kilometers", x.convoy(1, 0), 2);
        Check.due("giver", x.vehicle(2, 3), 0);
        Check.due("rescued", x.vehicle(0, 3), 1);
        x = leftOne("cv242010");
        Check.due("the giver had 6, is left with 3", x.bay(0, 3), 2);
        Check.due("the rescued had 4, goes on alone", x.convoy(1, 0), 2);
        Check.due("at the speed of the hour", x.member(1, 0), 0);
        Check.due("rescued then", x.vehicle(0, 3), 0);
    }

    private static void convoysGoAscending() {
        WinterRoad x = Check.road("W20d00030cv112000cv112000");
        x.pass(1);
        Check.due("the first takes 20", x.vehicle(0, 3), 19);
        Check.due("the second 10", x.vehicle(1, 3), 9);
    }
}
