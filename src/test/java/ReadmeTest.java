import java.io.IOException;
import java.nio.file.Files;
import java.nio.file.Path;
import java.util.ArrayList;
import java.util.List;
import java.util.regex.Matcher;
import java.util.regex.Pattern;

/** Each line of README.md that calls a house answers what stands behind it. The calls stand here a second time. */
public final class ReadmeTest extends Answers {
    private static final List<String> LINES = new ArrayList<>();
    private static Sumsetry house;
    private static int line = 0;

    public static void main(String[] args) throws IOException {
        Matcher matcher = Pattern.compile("(?m)^(house\\.|Sumsetry house).*;.*$")
                .matcher(Files.readString(Path.of("README.md")));
        while (matcher.find()) {
            LINES.add(matcher.group().replaceAll(" +//", " //"));
        }
        house = new Sumsetry();
        due("how it begins", "Sumsetry house = new Sumsetry();", () -> LINES.get(line++));
        groupsAndWays();
        ordersToTransforms();
        due("all lines are asked", LINES.size(), () -> line);
        REPORT.end("ReadmeTest");
    }

    private static void said(String call, Report.Call made) {
        String found = line < LINES.size() ? LINES.get(line) : "nothing";
        line++;
        due("README.md, line of a call " + line, "house." + call + "; // " + Report.told(made), () -> found);
    }

    private static void groupsAndWays() {
        said("group(1, 12)", () -> house.group(1, 12));
        said("add(5, 9, true)", () -> house.add(5, 9, true));
        said("set(0b111)", () -> house.set(0b111));
        said("combine(Sumsetry.SUM, 0, 0)", () -> house.combine(Sumsetry.SUM, 0, 0));
        said("elements(1)", () -> house.elements(1));
        said("move(0, -1, 5)", () -> house.move(0, -1, 5));
        said("elements(2)", () -> house.elements(2));
        said("set(0)", () -> house.set(0));
        said("ways(0, 0, 2)", () -> house.ways(0, 0, 2));
        said("popular(0, 0, 2)", () -> house.popular(0, 0, 2));
        said("energy(0, 1)", () -> house.energy(0, 1));
        said("stabilizer(1)", () -> house.stabilizer(1));
        said("excess(0, 2)", () -> house.excess(0, 2));
        said("slack(0, 1, 2)", () -> house.slack(0, 1, 2));
        said("cover(1, 0)", () -> house.cover(1, 0));
    }

    private static void ordersToTransforms() {
        said("sums(0, 3)", () -> house.sums(0, 3));
        said("order(0)", () -> house.order(0));
        said("essential(0)", () -> house.essential(0));
        said("maps(0, 2, 2)", () -> house.maps(0, 2, 2));
        said("image(0, 2, 2, 0)", () -> house.image(0, 2, 2, 0));
        said("image(0, 2, 2, 7)", () -> house.image(0, 2, 2, 7));
        said("maps(0, 3, 2)", () -> house.maps(0, 3, 2));
        said("keeps(0, Sumsetry.NO_STEPS)", () -> house.keeps(0, Sumsetry.NO_STEPS));
        said("greatest(1, Sumsetry.NO_STEPS)", () -> house.greatest(1, Sumsetry.NO_STEPS));
        said("wins(Sumsetry.FREE, 0)", () -> house.wins(Sumsetry.FREE, 0));
        said("put(5)", () -> house.put(5));
        said("put(3)", () -> house.put(3));
        said("put(4)", () -> house.put(4));
        said("zero()", () -> house.zero());
        said("wipe()", () -> house.wipe());
        said("root(13, 2)", () -> rootTold(house, 13, 2));
        said("transform(0, 1)", () -> house.transform(0, 1));
        said("waysAnew(0, 0, 2)", () -> house.waysAnew(0, 0, 2));
        said("of(4)", () -> house.of(4));
    }
}
