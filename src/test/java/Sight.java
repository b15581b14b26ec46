/**
 * All that can be seen of an object behind a script. As an object bears so many calls only, it is made again by
 * the same script as soon as these are used up.
 */
final class Sight {
    /** Ends of a text, by which that what already stands in it can be told. */
    private static final String[] ENDS = {"", "1", "=1", "-9=1", "0-0=0", ";0-0=0"};

    private final Script script;
    private final StringBuilder out = new StringBuilder();
    private WalkFrames made;
    private int callsLeft;

    private Sight(Script script) {
        this.script = script;
    }

    /** The present, the text, the snapshots and the history. */
    static String whole(Script script) {
        StringBuilder out = new StringBuilder(state(script));
        Sight counts = new Sight(script);
        counts.look("count", 17);
        counts.look("count", 18);
        out.append("\n past and text:").append(counts.out);
        for (int back = 1; back <= 5; back++) {
            out.append("\n undo ").append(back).append(':').append(behind(script, back + "*undo()"));
        }
        for (String end : ENDS) {
            out.append("\n text ").append(end).append(':').append(behind(script, "text(" + end + ") setRanges()"));
        }
        return out.toString();
    }

    /** All but the text and the history, which is what a state of the history keeps. */
    static String state(Script script) {
        Sight snapshots = new Sight(script);
        snapshots.look("count", 16);
        return office(script) + "\n snapshots:" + snapshots.out + "\n slot 0:" + behind(script, "restore(0)")
                + "\n slot 1:" + behind(script, "restore(1)");
    }

    private static String behind(Script script, String calls) {
        Script longer = script.then(calls);
        return " (" + longer.run(new WalkFrames()) + ")" + office(longer);
    }

    /** All but the text, the snapshots and the history, which is what a snapshot keeps. */
    static String office(Script script) {
        Sight sight = new Sight(script);
        for (int what = 0; what <= 15; what++) {
            sight.look("count", what);
        }
        sight.letters();
        sight.frames();
        sight.carriers();
        sight.stretches();
        sight.look("clearIn");
        for (int rule = 0; rule <= 2; rule++) {
            sight.look("wouldOverflow", rule);
        }
        return sight.out.toString();
    }

    private void letters() {
        int many = look("count", 6);
        for (int letter = 0; letter < many; letter++) {
            for (int what = 0; what <= 8; what++) {
                look("letter", letter, what);
            }
        }
        for (int place = 0; place <= 120 && look("inBag", place) != WalkFrames.NONE; place++) {
            continue;
        }
    }

    private void frames() {
        for (int walk = 0; walk < 8; walk++) {
            for (int what = 0; what <= 4; what++) {
                look("frame", walk, what);
            }
            for (int place = 0; place <= 120 && look("inFrame", walk, place) != WalkFrames.NONE; place++) {
                continue;
            }
            look("bestCarrier", walk);
        }
    }

    private void carriers() {
        for (int carrier = 0; carrier < 6; carrier++) {
            for (int what = 0; what <= 3; what++) {
                look("carrier", carrier, what);
            }
            for (int walk = 0; walk < 8; walk++) {
                look("rounds", carrier, walk);
            }
            look("wouldDeliver", carrier);
        }
    }

    private void stretches() {
        for (int code = 0; code < 100; code++) {
            look("stretch", code, 0);
        }
        for (int code = 0; code < 100; code += 11) {
            look("stretch", code, 1);
            look("stretch", code, 2);
        }
    }

    private int look(String name, int... arguments) {
        if (callsLeft == 0) {
            made = new WalkFrames();
            script.run(made);
            callsLeft = Script.MOST_CALLS - script.calls();
        }
        callsLeft--;
        int answer = Script.call(made, name, arguments);
        out.append(' ').append(name.charAt(0)).append(answer);
        return answer;
    }
}
