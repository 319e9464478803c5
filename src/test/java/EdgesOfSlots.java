/** The edges that promises 28 and 29 name, sentence by sentence. */
final class EdgesOfSlots {
    private static final int[] NO_SLOT = {Integer.MIN_VALUE, -9, -1, 2, 3, 1 << 30, Integer.MAX_VALUE};

    private EdgesOfSlots() {
    }

    static void run() {
        noSlotToSave();
        saves();
        storesThePresentState();
        noSlotToRestore();
        nothingSaved();
        restores();
        forgetsRemembered();
        keepsIt();
    }

    private static void noSlotToSave() {
        Check.sentence("Promise 28", "Throws `IndexOutOfBoundsException` if there is no such save slot");
        WinterRoad x = new WinterRoad();
        for (int slot : NO_SLOT) {
            Check.badIndex("save(" + slot + ")", () -> x.save(slot));
        }
        Check.badState("nothing is in slot 0", () -> x.restore(0));
        Check.badState("nothing is in slot 1", () -> x.restore(1));
        Check.sentence("Promise 28", "- `slot`: 0 or 1");
        Check.due("save(0)", x.save(0), 0);
        Check.due("save(1)", x.save(1), 0);
    }

    private static void saves() {
        Check.sentence("Promise 28", "Returns the hours that went by.");
        WinterRoad x = new WinterRoad();
        Check.due("ahead of hour 0", x.save(0), 0);
        x.pass(99);
        Check.due("behind 99", x.save(0), 99);
        Check.due("restore", x.restore(0), 99);
    }

    private static void storesThePresentState() {
        Check.sentence("Promise 28", "Stores the present state in a save slot.");
        String text = "W20g09050200b012d00005cv942005v919999cv312008";
        WinterRoad x = Check.road(text);
        x.save(1);
        x.pass(1);
        x.save(0);
        String behind = Look.at(x);
        x.addGate(1, 2, 1, 1);
        x.addBay(5, 6);
        x.addDepot(7, 9);
        x.addVehicle(x.addConvoy(), 1, 1, 20, 0);
        x.hold(1, 9);
        x.supply(0, 100);
        x.pass(5);
        x.restore(0);
        Check.due("slot 0", Look.at(x), behind);
        x.restore(1);
        Check.due("slot 1", Look.at(x), Look.at(Check.road(text)));
    }

    private static void noSlotToRestore() {
        Check.sentence("Promise 29", "Throws `IndexOutOfBoundsException` if there is no such save slot");
        WinterRoad x = new WinterRoad();
        for (int slot : NO_SLOT) {
            Check.badIndex("restore(" + slot + "), none is saved", () -> x.restore(slot));
        }
        x.save(0);
        x.save(1);
        for (int slot : NO_SLOT) {
            Check.badIndex("restore(" + slot + "), both are saved", () -> x.restore(slot));
        }
        Check.sentence("Promise 29", "- `slot`: 0 or 1");
        Check.due("restore(0)", x.restore(0), 0);
        Check.due("restore(1)", x.restore(1), 0);
    }

    private static void nothingSaved() {
        Check.sentence("Promise 29", "Throws `IllegalStateException` if nothing has been saved in it since the last"
                + " load");
        WinterRoad x = new WinterRoad();
        Check.badState("slot 0, new", () -> x.restore(0));
        Check.badState("slot 1, new", () -> x.restore(1));
        x.save(1);
        Check.badState("slot 0, only 1 is saved", () -> x.restore(0));
        Check.due("slot 1", x.restore(1), 0);
        x.save(0);
        Check.write(x, "W60").load();
        Check.badState("slot 0 behind load", () -> x.restore(0));
        Check.badState("slot 1 behind load", () -> x.restore(1));
        x.save(0);
        Check.due("saved since", x.restore(0), 0);
        Check.due("it is the new road", x.about(0), 60);
        Check.badState("slot 1 still", () -> x.restore(1));
    }

    private static void restores() {
        Check.sentence("Promise 29", "Returns the hours that went by then.");
        WinterRoad x = new WinterRoad();
        x.save(0);
        x.pass(99);
        x.save(1);
        x.pass(99);
        Check.due("slot 1", x.restore(1), 99);
        Check.due("slot 0", x.restore(0), 0);
        Check.due("slot 1 again", x.restore(1), 99);
    }

    private static void forgetsRemembered() {
        Check.sentence("Promise 29", "and forgets all remembered states.");
        WinterRoad x = new WinterRoad();
        for (int i = 0; i < 20; i++) {
            x.pass(1);
        }
        x.save(0);
        x.restore(0);
        Check.badState("undo", () -> x.undo());
        x.pass(1);
        Check.due("undo of what came since", x.undo(), 0);
        Check.due("hours", x.about(1), 20);
        Check.badState("undo again", () -> x.undo());
        x.pass(1);
        Check.badState("a restore that is refused forgets nothing", () -> x.restore(1));
        Check.due("undo behind it", x.undo(), 0);
    }

    private static void keepsIt() {
        Check.sentence("Promise 29", "The save slot keeps it.");
        WinterRoad x = Check.road("W10cv119999");
        x.pass(2);
        x.save(0);
        for (int i = 0; i < 3; i++) {
            Check.due("restore", x.restore(0), 2);
            Check.due("kilometer", x.convoy(0, 0), 2);
            x.pass(3);
            x.hold(0, 5);
        }
        x.undo();
        Check.due("behind undo too", x.restore(0), 2);
        Check.due("held", x.convoy(0, 3), 0);
    }
}
