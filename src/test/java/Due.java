import java.util.Set;

/** Counts the answers of a test that are not as due, and ends the test. */
final class Due {
    private static final Set<String> HELPING_CLASSES = Set.of("Due", "Workbench");
    private static final Set<String> HELPING_METHODS = Set.of("due", "answers");

    private int asked = 0;
    private int wrong = 0;
    private String subject = "";

    /** Says what the answers from now on are about. */
    void about(String newSubject) {
        subject = newSubject;
    }

    int asked() {
        return asked;
    }

    /** Names a wrong answer by the line of the test that asked. */
    void is(long got, long want) {
        if (got == want) {
            asked++;
            return;
        }
        StackWalker.StackFrame caller = StackWalker.getInstance().walk(frames -> frames
            .filter(frame -> !HELPING_CLASSES.contains(frame.getClassName()))
            .filter(frame -> !HELPING_METHODS.contains(frame.getMethodName()))
            .findFirst().get());
        is(caller.getFileName() + ", line " + caller.getLineNumber(), got, want);
    }

    void is(String call, long got, long want) {
        asked++;
        if (got != want) {
            wrong++;
            System.out.println((subject.isEmpty() ? "" : subject + ": ") + call + " answered " + got + ", due is " + want);
        }
    }

    void end() {
        System.out.println(asked + " answers, " + wrong + " not as due");
        System.exit(wrong == 0 && asked > 0 ? 0 : 1);
    }
}
