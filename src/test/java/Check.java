import java.util.function.Consumer;
import java.util.function.ToIntFunction;

/** Counts and prints the answers that are not as due. */
final class Check {
    private final String name;
    private int right = 0;
    private int wrong = 0;

    Check(String name) {
        this.name = name;
    }

    void due(String what, long got, long want) {
        if (got == want) {
            right++;
        } else {
            wrong++;
            System.out.println(name + ": " + what + " answered " + got + ", due is " + want);
        }
    }

    void same(String what, String got, String want) {
        if (got.equals(want)) {
            right++;
        } else {
            wrong++;
            System.out.println(name + ": " + what + "\n  is  " + got + "\n  due " + want);
        }
    }

    /** The call must answer as is wanted, and leave an object as it was made by the steps before. */
    void unchanged(String what, Consumer<WalkFrames> before, ToIntFunction<WalkFrames> call, int want) {
        WalkFrames one = new WalkFrames();
        WalkFrames other = new WalkFrames();
        before.accept(one);
        before.accept(other);
        due(what, call.applyAsInt(one), want);
        same("the state behind " + what, Look.all(one), Look.all(other));
    }

    static void append(WalkFrames x, String text) {
        for (int i = 0; i < text.length(); i++) {
            x.append(text.charAt(i));
        }
    }

    void end() {
        System.out.println(name + ": " + right + " answers as due, " + wrong + " not");
        if (wrong != 0) {
            System.exit(1);
        }
    }
}
