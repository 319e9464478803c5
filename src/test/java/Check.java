/** What the tests share: counting of answers, and roads made from texts. */
final class Check {
    /** A call of the face. */
    interface Call {
        int answer();
    }

    private static int passed = 0;
    private static int failed = 0;
    private static String sentence = "";
    private static Document document;

    private Check() {
    }

    /** Says which words of the document the next checks are for; they must stand in that section. */
    static void sentence(String section, String words) {
        sentence = section + ", \"" + words + "\": ";
        tell(document().quotes(section, words), "these words do not stand there");
    }

    /** The next checks are for no sentence alone. */
    static void noSentence() {
        sentence = "";
    }

    static Document document() {
        document = document == null ? new Document() : document;
        return document;
    }

    static void due(String what, int got, int want) {
        tell(got == want, what + " answered " + got + ", due is " + want);
    }

    static void due(String what, String got, String want) {
        tell(got.equals(want), what + " answered " + got + ", due is " + want);
    }

    /** Each of some answers, numbered from 0 behind what they are called. */
    static void dueEach(String what, int[] got, int... want) {
        due("how many: " + what, got.length, want.length);
        for (int i = 0; i < Math.min(got.length, want.length); i++) {
            due(what + " " + i, got[i], want[i]);
        }
    }

    static void badIndex(String what, Call call) {
        refused(what, IndexOutOfBoundsException.class, call);
    }

    static void badArgument(String what, Call call) {
        refused(what, IllegalArgumentException.class, call);
    }

    static void badState(String what, Call call) {
        refused(what, IllegalStateException.class, call);
    }

    /** The class must be the named one itself: the machine throws classes below it. */
    private static void refused(String what, Class<?> kind, Call call) {
        String got;
        try {
            got = "answer " + call.answer();
        } catch (RuntimeException e) {
            got = e.getClass() == kind ? "" : e.getClass().getName();
        }
        tell(got.isEmpty(), what + ": " + got + ", due is " + kind.getName());
    }

    private static void tell(boolean fine, String otherwise) {
        if (fine) {
            passed++;
        } else {
            failed++;
            System.out.println(sentence + otherwise);
        }
    }

    static WinterRoad write(WinterRoad road, String text) {
        road.clearText();
        for (int i = 0; i < text.length(); i++) {
            road.append(text.charAt(i));
        }
        return road;
    }

    /** A road with the journey of a text. */
    static WinterRoad road(String text) {
        WinterRoad road = write(new WinterRoad(), text);
        road.load();
        return road;
    }

    /** Tells the counts and ends the test. */
    static void end() {
        System.out.println(passed + " passed, " + failed + " failed");
        if (failed > 0) {
            System.exit(1);
        }
    }
}
