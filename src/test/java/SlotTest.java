/** Promises 28 and 29: save, restore. */
public final class SlotTest {
    public static void main(String[] args) {
        slots();
        keepsTheState();
        forgets();
        staysOutsideUndo();
        Check.end();
    }

    private static void slots() {
        WinterRoad x = new WinterRoad();
        for (int slot : new int[] {-1, 2, Integer.MIN_VALUE, Integer.MAX_VALUE}) {
            Check.badIndex("save(" + slot + ")", () -> x.save(slot));
            Check.badIndex("restore(" + slot + ")", () -> x.restore(slot));
        }
        Check.badState("restore(0)", () -> x.restore(0));
        Check.due("save(1)", x.save(1), 0);
        Check.badState("restore(0) behind save(1)", () -> x.restore(0));
        Check.due("restore(1)", x.restore(1), 0);
    }

    private static void keepsTheState() {
        WinterRoad x = Check.road("W20g09050200b012d00005cv942005v919999cv312008");
        x.pass(1);
        Check.due("save(0)", x.save(0), 1);
        int[] about = new int[12];
        for (int what = 0; what < 12; what++) {
            about[what] = x.about(what);
        }
        x.hold(1, 9);
        x.addBay(5, 1);
        x.addVehicle(1, 1, 1, 99, 99);
        x.pass(7);
        Check.due("save(1)", x.save(1), 8);
        for (int times = 0; times < 2; times++) {
            Check.due("restore(0)", x.restore(0), 1);
            for (int what = 0; what < 12; what++) {
                Check.due("about(" + what + ")", x.about(what), about[what]);
            }
            Check.due("held", x.convoy(1, 3), 0);
            Check.due("places", x.bay(0, 1), 2);
            x.pass(3);
        }
        Check.due("restore(1)", x.restore(1), 8);
        Check.due("bays", x.about(3), 2);
        x.pass(1);
        Check.due("save over it", x.save(1), 9);
        x.pass(1);
        Check.due("restore of the later", x.restore(1), 9);
    }

    private static void forgets() {
        WinterRoad x = Check.road("W20cv119999");
        x.append('x');
        x.pass(1);
        x.save(0);
        Check.due("save is no action, and forgets nothing", x.undo(), 0);
        x.pass(4);
        Check.due("restore", x.restore(0), 1);
        Check.badState("undo behind restore", () -> x.undo());
        Check.due("the text stays", x.clearText(), 12);
    }

    private static void staysOutsideUndo() {
        WinterRoad x = Check.road("W20cv119999");
        x.pass(2);
        x.save(0);
        x.pass(2);
        x.undo();
        x.undo();
        Check.due("hours", x.about(1), 0);
        Check.due("restore behind undo", x.restore(0), 2);
        x.hold(0, 1);
        Check.due("undo behind restore and hold", x.undo(), 0);
        Check.due("hours of the restored", x.about(1), 2);
    }
}
