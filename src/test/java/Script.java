import java.util.Arrays;

/**
 * Scripts of calls with the answers that are due: one call a line, 'name numbers => answer'; 'tell text => answer' puts
 * a text on the tape and reads it, 'new' takes a new object, what follows a # is a remark.
 */
final class Script {
    private static final int SHOWN_MOST = 60;

    EyeTrainer x = new EyeTrainer();
    private String about = "";
    private int tried;
    private int wrong;

    /** What the answers that follow are about: a promise, or a sentence of the document. */
    void says(String sentence) {
        about = sentence;
    }

    void due(String call, long got, long want) {
        tried++;
        if (got != want) {
            wrong++;
            if (wrong <= SHOWN_MOST) {
                System.out.println("'" + about + "': " + call + " answered " + got + ", due is " + want);
            }
        }
    }

    /** A call of the object in use. */
    long call(String call) {
        String[] words = call.trim().split(" +");
        return Calls.call(x, words[0], Arrays.stream(words).skip(1).mapToLong(Long::parseLong).toArray());
    }

    void due(String call, long want) {
        due(call, call(call), want);
    }

    void run(String script) {
        for (String line : script.split("\n")) {
            String call = line.replaceAll("#.*", "").trim();
            if (call.equals("new")) {
                x = new EyeTrainer();
            } else if (!call.isEmpty()) {
                String[] sides = call.split(" => ");
                long want = Long.parseLong(sides[1].trim());
                if (sides[0].startsWith("tell ") && sides[0].contains(";")) {
                    due(call, Calls.tell(x, sides[0].substring(5)), want);
                } else {
                    due(sides[0], want);
                }
            }
        }
    }

    /** A new object with a text that can be read. */
    void fresh(String text) {
        x = new EyeTrainer();
        int lines = Calls.tell(x, text);
        due("the text " + text, lines < 0 ? lines : 0, 0);
    }

    /** A text, read by a new object, with a FAULT at a place. */
    void fault(int kind, int place, String text) {
        x = new EyeTrainer();
        due("the text " + text, Calls.tell(x, text), -30 - kind);
        due("fault(0) of " + text, x.fault(0), kind);
        due("fault(1) of " + text, x.fault(1), place);
        due("LINES of " + text, x.count(9), 0);
    }

    /** A text with an @ ahead of the place of its FAULT. */
    void faultAt(int kind, String marked) {
        fault(kind, marked.indexOf('@'), marked.replace("@", ""));
    }

    /** A text, read by a new object, without a FAULT. */
    void readable(String text, int lines) {
        x = new EyeTrainer();
        due("the text " + text, Calls.tell(x, text), lines);
        due("fault(0) of " + text, x.fault(0), 0);
        due("fault(1) of " + text, x.fault(1), -1);
        due("LINES of " + text, x.count(9), lines);
    }

    /** Ends the test: with exit code 1 if an answer was not as due. */
    void end(String fine) {
        System.out.println(wrong == 0 ? fine + ": " + tried + " answers are as due" : wrong + " answers are not as due");
        if (wrong != 0) {
            System.exit(1);
        }
    }
}
