import java.io.IOException;
import java.lang.reflect.Method;
import java.nio.file.Files;
import java.nio.file.Path;

/** README.md: its example answers what it says there, and each method of the face is told in it. */
public final class ReadmeTest {
    public static void main(String[] args) throws IOException {
        String readme = Files.readString(Path.of("README.md"));
        tellsEachMethod(readme);
        theExample(readme);
        theError(readme);
        theLanguage(readme);
        Session.end();
    }

    private static void tellsEachMethod(String readme) {
        for (Method method : PairMachine.class.getMethods()) {
            if (method.getDeclaringClass() == PairMachine.class) {
                String told = "| `" + method.getName() + "(";
                Session.due("whether README.md tells " + method.getName(), readme.contains(told), true);
            }
        }
        Session.due("whether README.md tells the constructor", readme.contains("| `new PairMachine(size)`"), true);
        Session.due("whether README.md tells how to test", readme.contains(".ci/run"), true);
    }

    /** The answers stand behind the calls, as "// answer". */
    private static void theExample(String readme) {
        PairMachine machine = new PairMachine(120);
        says(readme, "machine.write(0x282B2031203229L);", "" + machine.write(0x282B2031203229L));
        says(readme, "machine.compile();", "" + machine.compile());
        says(readme, "machine.position();", "" + machine.position());
        says(readme, "machine.start();", "" + machine.start());
        says(readme, "machine.next();", "" + machine.next());
        says(readme, "machine.run(200);", "" + machine.run(200));
        says(readme, "machine.state();", "" + machine.state());
        says(readme, "machine.count(0);", "" + machine.count(0));
        says(readme, "machine.shown(0);", "" + machine.shown(0));
        says(readme, "machine.shown(1);", "" + machine.shown(1));
    }

    private static void theError(String readme) {
        PairMachine machine = new PairMachine(120);
        says(readme, "machine.write(0x282B203129L);", "" + machine.write(0x282B203129L));
        boolean throwsIt = false;
        try {
            machine.compile();
        } catch (IllegalArgumentException e) {
            throwsIt = true;
        }
        Session.due("whether compile throws", throwsIt, true);
        says(readme, "int at = machine.position();", "" + machine.position());
    }

    private static void says(String readme, String call, String answer) {
        int at = readme.indexOf(call);
        Session.due("whether README.md has " + call, at >= 0, true);
        String behind = at < 0 ? "" : readme.substring(at + call.length()).trim();
        String said = behind.split("[,:\n]")[0];
        Session.due("what README.md says of " + call, said, "// " + answer);
    }

    private static void theLanguage(String readme) {
        String text = "(; (f 5) (f (\\ (n) (? n (* n (f (- n 1))) 1))))";
        Session.due("whether README.md has " + text, readme.contains("`" + text + "` is done with 120"), true);
        new Session(250).results(text, "120");
    }
}
