import java.io.IOException;
import java.lang.reflect.Method;
import java.lang.reflect.Modifier;
import java.nio.file.DirectoryStream;
import java.nio.file.Files;
import java.nio.file.Path;

/** README.md tells every call of the face and every test, and its example answers what it says. */
final class ReadmeTest {
    public static void main(String[] args) throws IOException {
        String page = Files.readString(Path.of("README.md"));
        everyCallHasARow(page);
        everyTestHasARow(page);
        theExampleHolds();
        Checks.end();
    }

    private static void everyCallHasARow(String page) {
        told(page, "new CoalHulks()");
        for (Method one : CoalHulks.class.getDeclaredMethods()) {
            if (Modifier.isPublic(one.getModifiers())) {
                String row = rowOf(page, "| `" + one.getReturnType() + " " + one.getName() + "(");
                Checks.due("README.md has a row for " + one.getName(), row.isEmpty() ? 0 : 1, 1);
                throwsAreTold(row, one);
            }
        }
    }

    private static void throwsAreTold(String row, Method one) {
        Class<?>[] thrown = one.getExceptionTypes();
        for (Class<?> each : thrown) {
            told(row, "`" + each.getSimpleName() + "`: ");
        }
        Checks.due("what README.md says that " + one.getName() + " throws",
            row.split("Exception`: ", -1).length - 1, thrown.length);
    }

    private static String rowOf(String page, String beginning) {
        int from = page.indexOf(beginning);
        return from < 0 ? "" : page.substring(from, page.indexOf('\n', from));
    }

    private static void everyTestHasARow(String page) throws IOException {
        told(page, "`.ci/run`");
        try (DirectoryStream<Path> tests = Files.newDirectoryStream(Path.of("src/test/java"), "*Test.java")) {
            for (Path one : tests) {
                told(page, "| `" + one.getFileName().toString().replace(".java", "") + "` |");
            }
        }
    }

    private static void told(String page, String words) {
        Checks.due("README.md tells " + words, page.contains(words) ? 1 : 0, 1);
    }

    private static void theExampleHolds() {
        CoalHulks x = new CoalHulks();
        int hulk = x.hulk(300);
        int lighter = x.lighter(100);
        int gang = x.gang(10);
        int steamer = x.steamer(90, 30);
        x.order(lighter, gang, steamer);
        Checks.due("the hulk", hulk, 0);
        Checks.due("left", x.hours(9), 1);
        Checks.due("fateOf", x.fateOf(steamer), CoalHulks.FILLED);
        Checks.due("delivered", x.delivered(), 90);
    }
}
