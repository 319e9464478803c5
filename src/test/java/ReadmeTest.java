import java.io.IOException;
import java.nio.file.Files;
import java.nio.file.Path;
import java.util.List;

/** The examples of README.md: each call must answer what the page tells behind it. Run in the project's folder. */
public final class ReadmeTest {
    private static List<String> lines;
    /** Where the page has been read to: the examples' calls stand there in the order of this test. */
    private static int next = 0;

    public static void main(String[] args) throws IOException {
        lines = Files.readAllLines(Path.of("README.md"));
        thingByThing(new WinterRoad());
        fromText(new WinterRoad());
        int left = 0;
        for (String line : lines.subList(Math.min(next, lines.size()), lines.size())) {
            left += line.matches("road\\..*;\\s*//.*") ? 1 : 0;
        }
        Check.due("examples of README.md that this test does not make", left, 0);
        Check.end();
    }

    private static void thingByThing(WinterRoad road) {
        told("road.addGate(12, 6, 2, 3);", road.addGate(12, 6, 2, 3));
        told("road.addDepot(9, 100);", road.addDepot(9, 100));
        told("road.addConvoy();", road.addConvoy());
        told("road.addVehicle(0, 3, 2, 60, 20);", road.addVehicle(0, 3, 2, 60, 20));
        told("road.arrives(0);", road.arrives(0));
        told("road.bestHold(0);", road.bestHold(0));
        told("road.hold(0, 1);", road.hold(0, 1));
        told("road.pass(8);", road.pass(8));
        told("road.vehicle(0, 6);", road.vehicle(0, 6));
        told("road.undo();", road.undo());
        told("road.about(1);", road.about(1));
    }

    private static void fromText(WinterRoad road) {
        String text = "W15b021b053cv512005cv314030";
        Check.due("README.md has the text " + text, String.join("\n", lines).contains('"' + text + '"') ? 1 : 0, 1);
        Check.write(road, text);
        told("road.errorPosition();", road.errorPosition());
        told("road.load();", road.load());
        told("road.leaves(0);", road.leaves(0));
        told("road.pass(2);", road.pass(2));
        told("road.vehicle(0, 5);", road.vehicle(0, 5));
        told("road.runScript(2, 1000360002L);", road.runScript(2, 1000360002L));
    }

    /** The next example of the page must be this call, with this answer first behind it. */
    private static void told(String call, int answer) {
        while (next < lines.size() && !lines.get(next).matches("road\\..*;\\s*//.*")) {
            next++;
        }
        String line = next < lines.size() ? lines.get(next) : "";
        next++;
        Check.due("README.md", line.replaceAll(":.*", "").replaceAll("\\s+", " "), call + " // " + answer);
    }
}
