/** Counts the answers of a test that are not as due, and ends the test. */
final class Due {
    private int asked = 0;
    private int wrong = 0;

    /** Names a wrong answer by the line of the test that asked. */
    void is(long got, long want) {
        if (got == want) {
            asked++;
            return;
        }
        StackWalker.StackFrame caller = StackWalker.getInstance().walk(frames -> frames
            .filter(frame -> !frame.getClassName().equals("Due") && !frame.getMethodName().equals("due"))
            .findFirst().get());
        is(caller.getFileName() + ", line " + caller.getLineNumber() + ":", got, want);
    }

    void is(String call, long got, long want) {
        asked++;
        if (got != want) {
            wrong++;
            System.out.println(call + " answered " + got + ", due is " + want);
        }
    }

    void end() {
        System.out.println(asked + " answers, " + wrong + " not as due");
        System.exit(wrong == 0 && asked > 0 ? 0 : 1);
    }
}
