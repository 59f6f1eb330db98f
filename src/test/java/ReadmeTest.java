import java.io.IOException;
import java.lang.reflect.Method;
import java.lang.reflect.Modifier;
import java.nio.file.Files;
import java.nio.file.Path;
import java.util.ArrayList;
import java.util.List;

/** README.md's example answers what it says there, and its table names every call. */
public final class ReadmeTest {
    private static final Checks CHECKS = new Checks();

    public static void main(String[] args) throws IOException {
        List<String> readme = Files.readAllLines(Path.of("README.md"));
        List<String> calls = new ArrayList<>();
        List<String> answers = new ArrayList<>();
        readExample(readme, calls, answers);
        example(calls, answers);
        table(readme);
        CHECKS.end();
    }

    /** A line of the example is a call, "; // ", and the answer up to a colon or the end. */
    private static void readExample(List<String> readme, List<String> calls, List<String> answers) {
        for (String line : readme) {
            int mark = line.indexOf("//");
            if (!line.startsWith("desk.") || mark < 0) continue;
            calls.add(line.substring(0, mark).strip());
            answers.add(line.substring(mark + 2).split(":")[0].strip());
        }
    }

    private static void example(List<String> calls, List<String> answers) {
        ImpreciseDesk desk = new ImpreciseDesk();
        Object[] made = {
            "desk.bring(0, 8, 2 + 8 * 4 + 64 * 3);", desk.bring(0, 8, 2 + 8 * 4 + 64 * 3),
            "desk.bring(4, 8, 2 + 8 * 1 + 64 * 5);", desk.bring(4, 8, 2 + 8 * 1 + 64 * 5),
            "desk.block(1, true);", desk.block(1, true),
            "desk.loss();", desk.loss(),
            "desk.kept(0);", desk.kept(0),
            "desk.kept(1);", desk.kept(1),
            "desk.at(4);", desk.at(4),
            "desk.at(8);", desk.at(8),
            "desk.idle();", desk.idle(),
            "desk.greatestMust(1);", desk.greatestMust(1),
            "desk.lossWithout(4);", desk.lossWithout(4),
            "desk.freeable(0, 6);", desk.freeable(0, 6),
            "desk.change(1, 5 + 8 * 0 + 64 * 1);", desk.change(1, 5 + 8 * 0 + 64 * 1),
            "desk.take(1);", desk.take(1),
            "desk.tasks();", desk.tasks(),
            "desk.blocked();", desk.blocked(),
        };
        CHECKS.due("calls of the example", calls.size(), made.length / 2);
        for (int k = 0; k < calls.size() && k < made.length / 2; k++) {
            CHECKS.due("call " + k + " of the example", (String) made[2 * k], calls.get(k));
            CHECKS.due("the answer to " + calls.get(k), made[2 * k + 1].toString(), answers.get(k));
        }
    }

    private static void table(List<String> readme) {
        for (Method method : ImpreciseDesk.class.getDeclaredMethods()) {
            if (!Modifier.isPublic(method.getModifiers())) continue;
            String start = "| `" + method.getName() + "(";
            CHECKS.due("a row of the table for " + method.getName(),
                    readme.stream().filter(line -> line.startsWith(start)).count(), 1);
        }
    }
}
