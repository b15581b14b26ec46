import java.util.HashMap;
import java.util.Map;
import java.util.function.Consumer;
import java.util.function.ToIntFunction;

/** Counts and prints the answers that are not as due. */
final class Check {
    /**
     * An office in the hour 4 with letters in each place: 0 was sent back, 1 and 5 are delivered, 2 to 4 are in the
     * overflow, 6 to 8 in the hand of the carrier 0, 9 is in the frame 2, 10 and 11 are in the bag. The carriers 0, 1
     * and 2 have the walks 0, 7 and 6; 0 is out. The slot 0 is taken, the text is no text of ranges yet.
     */
    static final String BUSY = "post(5,0,1) hour() setRange(5,5,7) assign(0,0) goOut(0) comeBack(0) hour() setRange(5,5,6)"
            + " assign(7,1) goOut(1) comeBack(1) hour() setRange(5,5,5) assign(6,2) goOut(2) comeBack(2)"
            + " post(1,0,4) post(2,1,4) post(30,0,1) set(0,5) set(10,3) hour() goOut(0) comeBack(0) take(0) goOut(0)"
            + " post(60,1,2) text(0-9=)";

    private static final Map<String, String> SEEN = new HashMap<>();

    private final String name;
    private int right = 0;
    private int wrong = 0;

    Check(String name) {
        this.name = name;
    }

    void due(String what, long got, long want) {
        if (got == want) {
            right++;
        } else {
            wrong++;
            System.out.println(name + ": " + what + " answered " + got + ", due is " + want);
        }
    }

    void same(String what, String got, String want) {
        if (got.equals(want)) {
            right++;
        } else {
            wrong++;
            System.out.println(name + ": " + what + "\n  is  " + got + "\n  due " + want);
        }
    }

    /** The call must answer as is wanted, and leave an object as it was made by the steps before. */
    void unchanged(String what, Consumer<WalkFrames> before, ToIntFunction<WalkFrames> call, int want) {
        WalkFrames one = new WalkFrames();
        WalkFrames other = new WalkFrames();
        before.accept(one);
        before.accept(other);
        due(what, call.applyAsInt(one), want);
        same("the state behind " + what, Look.all(one), Look.all(other));
    }

    /** A script on a new object, whose answers are as written in it. */
    void answers(String script) {
        new Script(script).check(this);
    }

    /** Behind the script the call answers as is wanted, and nothing that can be seen is another than before. */
    void changesNothing(String before, String call, int want) {
        Script script = new Script(before);
        Script longer = script.then(call);
        due(call + " behind " + before, longer.run(new WalkFrames()), want);
        same("what can be seen behind " + call + " behind " + before, Sight.whole(longer), whole(script));
    }

    /** Behind the script the call answers the error, and changes nothing. */
    void refused(String before, String call, int error) {
        due("an error is " + error, error < 0 && error != WalkFrames.NONE ? 1 : 0, 1);
        changesNothing(before, call, error);
    }

    /** Each of the calls is refused, by a new object and by a busy one, as an argument is out of range. */
    void invalid(String... calls) {
        for (String call : calls) {
            refused("", call, WalkFrames.INVALID_ARGUMENT);
            refused(BUSY, call, WalkFrames.INVALID_ARGUMENT);
        }
    }

    /** Behind the script the call records the state before it, as a sixth one too. */
    void action(String before, String call) {
        Script script = new Script(before);
        int states = Math.min(script.then("count(17)").run(new WalkFrames()) + 1, 5);
        answers(before + " " + call + " count(17)=" + states + " undo()=" + (states - 1));
        same("the state behind undo() of " + call, Sight.state(script.then(call + " undo()")), Sight.state(script));
        answers(before + " set(9,11) set(9,12) set(9,13) set(9,14) set(9,15) " + call + " count(17)=5 undo()=4"
                + " count(14)=15 undo()=3 undo()=2 undo()=1 undo()=0 count(14)=11 undo()=-2");
    }

    /** Two scripts behind which all that a snapshot keeps is the same. */
    void sameOffice(String one, String other) {
        same("the office behind " + one, Sight.office(new Script(one)), Sight.office(new Script(other)));
    }

    private static String whole(Script script) {
        return SEEN.computeIfAbsent(script.told(), told -> Sight.whole(script));
    }

    int right() {
        return right;
    }

    int wrong() {
        return wrong;
    }

    static void append(WalkFrames x, String text) {
        for (int i = 0; i < text.length(); i++) {
            x.append(text.charAt(i));
        }
    }

    void end() {
        System.out.println(name + ": " + right + " answers as due, " + wrong + " not");
        if (wrong != 0) {
            System.exit(1);
        }
    }
}
