import java.util.ArrayList;
import java.util.List;
import java.util.regex.Matcher;
import java.util.regex.Pattern;

/**
 * Calls on one object, written as "post(5,0,3)=0 20*hour() text(0-9=1) goOut(2)=-2": a number ahead of a call
 * says how often it is done, "=" the answer that is due from the last of these, text(..) appends its signs, and
 * min and max are the least and the greatest int.
 */
final class Script {
    /** The document promises nothing about later calls. */
    static final int MOST_CALLS = 512;
    private static final Pattern STEP = Pattern.compile("(?:(\\d+)\\*)?(\\w+)\\((.*)\\)(?:=(-?\\d+))?");

    private record Step(String told, String name, int[] arguments, Integer due) {
    }

    private final List<Step> steps = new ArrayList<>();
    private final String told;

    Script(String told) {
        this.told = told;
        for (String step : told.split("\\s+")) {
            if (!step.isEmpty()) {
                read(step);
            }
        }
        if (steps.size() > MOST_CALLS) {
            throw new IllegalArgumentException(steps.size() + " calls: " + told);
        }
    }

    private void read(String step) {
        Matcher matcher = STEP.matcher(step);
        if (!matcher.matches()) {
            throw new IllegalArgumentException("no call: " + step);
        }
        int times = matcher.group(1) == null ? 1 : Integer.parseInt(matcher.group(1));
        Integer due = matcher.group(4) == null ? null : Integer.valueOf(matcher.group(4));
        boolean text = matcher.group(2).equals("text");
        int many = text ? matcher.group(3).length() : times;
        for (int i = 0; i < many; i++) {
            int[] arguments = text ? new int[] {matcher.group(3).charAt(i)} : numbers(matcher.group(3));
            steps.add(new Step(step, text ? "append" : matcher.group(2), arguments, i == many - 1 ? due : null));
        }
    }

    private static int[] numbers(String told) {
        if (told.isEmpty()) {
            return new int[0];
        }
        String[] parts = told.split(",");
        int[] numbers = new int[parts.length];
        for (int i = 0; i < parts.length; i++) {
            numbers[i] = parts[i].equals("min") ? Integer.MIN_VALUE
                    : parts[i].equals("max") ? Integer.MAX_VALUE : Integer.parseInt(parts[i]);
        }
        return numbers;
    }

    Script then(String more) {
        return new Script(told + " " + more);
    }

    String told() {
        return told;
    }

    int calls() {
        return steps.size();
    }

    /** Answers what the last call answered, 0 without a call. */
    int run(WalkFrames x) {
        int answer = 0;
        for (Step step : steps) {
            answer = call(x, step.name(), step.arguments());
        }
        return answer;
    }

    /** On a new object, each answer that is written beside what was answered. */
    void check(Check c) {
        WalkFrames x = new WalkFrames();
        for (int i = 0; i < steps.size(); i++) {
            Step step = steps.get(i);
            int answer = call(x, step.name(), step.arguments());
            if (step.due() != null) {
                c.due("call " + (i + 1) + ", " + step.told() + ", of " + told + ",", answer, step.due());
            }
        }
    }

    static int call(WalkFrames x, String name, int... a) {
        switch (name + " " + a.length) {
            case "post 3": return x.post(a[0], a[1], a[2]);
            case "hour 0": return x.hour();
            case "setRange 3": return x.setRange(a[0], a[1], a[2]);
            case "set 2": return x.set(a[0], a[1]);
            case "assign 2": return x.assign(a[0], a[1]);
            case "goOut 1": return x.goOut(a[0]);
            case "comeBack 1": return x.comeBack(a[0]);
            case "take 1": return x.take(a[0]);
            case "restore 1": return x.restore(a[0]);
            case "undo 0": return x.undo();
            case "append 1": return x.append(a[0]);
            case "clearText 0": return x.clearText();
            case "setRanges 0": return x.setRanges();
            case "count 1": return x.count(a[0]);
            case "letter 2": return x.letter(a[0], a[1]);
            case "frame 2": return x.frame(a[0], a[1]);
            case "carrier 2": return x.carrier(a[0], a[1]);
            case "rounds 2": return x.rounds(a[0], a[1]);
            case "stretch 2": return x.stretch(a[0], a[1]);
            case "inBag 1": return x.inBag(a[0]);
            case "inFrame 2": return x.inFrame(a[0], a[1]);
            case "clearIn 0": return x.clearIn();
            case "wouldOverflow 1": return x.wouldOverflow(a[0]);
            case "bestCarrier 1": return x.bestCarrier(a[0]);
            case "wouldDeliver 1": return x.wouldDeliver(a[0]);
            default: throw new IllegalArgumentException("no call: " + name + " with " + a.length);
        }
    }
}
