/** What the tests share: counting of answers, and roads made from texts. */
final class Check {
    /** A call of the face. */
    interface Call {
        int answer();
    }

    private static int passed = 0;
    private static int failed = 0;

    private Check() {
    }

    static void due(String what, int got, int want) {
        if (got == want) {
            passed++;
        } else {
            failed++;
            System.out.println(what + " answered " + got + ", due is " + want);
        }
    }

    static void badIndex(String what, Call call) {
        refused(what, IndexOutOfBoundsException.class, call);
    }

    static void badArgument(String what, Call call) {
        refused(what, IllegalArgumentException.class, call);
    }

    static void badState(String what, Call call) {
        refused(what, IllegalStateException.class, call);
    }

    /** The class must be the named one itself: the machine throws classes below it. */
    private static void refused(String what, Class<?> kind, Call call) {
        String got;
        try {
            got = "answer " + call.answer();
        } catch (RuntimeException e) {
            got = e.getClass() == kind ? "" : e.getClass().getName();
        }
        if (got.isEmpty()) {
            passed++;
        } else {
            failed++;
            System.out.println(what + ": " + got + ", due is " + kind.getName());
        }
    }

    static WinterRoad write(WinterRoad road, String text) {
        road.clearText();
        for (int i = 0; i < text.length(); i++) {
            road.append(text.charAt(i));
        }
        return road;
    }

    /** A road with the journey of a text. */
    static WinterRoad road(String text) {
        WinterRoad road = write(new WinterRoad(), text);
        road.load();
        return road;
    }

    /** Tells the counts and ends the test. */
    static void end() {
        System.out.println(passed + " passed, " + failed + " failed");
        if (failed > 0) {
            System.exit(1);
        }
    }
}
