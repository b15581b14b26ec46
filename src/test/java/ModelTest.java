/** Long runs of all calls on WalkFrames and on the model beside it; each answer must be the same. */
public final class ModelTest {
    private static final int RUNS = 1500;
    private static final int CALLS = 512;
    private static final int[] EDGES = {-10, -9, -2, -1, 0, 1, 2, 3, 4, 5, 6, 7, 8, 9, 10, 11, 12, 13, 19, 20, 21, 30, 31, 40,
        41, 49, 50, 59, 60, 80, 99, 100, 119, 120, 255, 256, Integer.MIN_VALUE, Integer.MAX_VALUE};
    private static final String[] NAMES = {"post", "hour", "setRange", "set", "assign", "goOut", "comeBack", "take",
        "restore", "undo", "append", "clearText", "setRanges", "count", "letter", "frame", "carrier", "rounds",
        "stretch", "inBag", "inFrame", "clearIn", "wouldOverflow", "bestCarrier", "wouldDeliver"};
    /** How often each call comes; a run leaves some out. */
    private static final int[] WEIGHTS = {8, 12, 5, 6, 6, 14, 14, 2, 2, 4, 1, 1, 2, 10, 10, 6, 4, 3, 3, 5, 5, 5, 5, 3, 6};

    private long seed;
    private WalkFrames real;
    private Model model;
    private int codes;
    private int walks;
    private int calls;
    private final StringBuilder told = new StringBuilder();
    private final int[] weights = new int[WEIGHTS.length];
    private static final java.util.Map<String, Integer> SEEN = new java.util.TreeMap<>();

    private ModelTest(long seed) {
        this.seed = seed * 7919 + 17;
    }

    public static void main(String[] args) {
        for (int run = 0; run < RUNS; run++) {
            if (!new ModelTest(run).run()) {
                System.out.println("ModelTest: run " + run + " has an answer that is not as due");
                System.exit(1);
            }
        }
        if (args.length > 0) {
            SEEN.forEach((key, many) -> System.out.println(key + ": " + many));
        }
        System.out.println("ModelTest: " + RUNS + " runs as due");
    }

    /** The same numbers in every run of the test. */
    private int next(int bound) {
        seed = seed * 6364136223846793005L + 1442695040888963407L;
        return (int) Math.floorMod(seed >>> 33, (long) bound);
    }

    private boolean run() {
        real = new WalkFrames();
        model = new Model();
        codes = 1 + next(100);
        walks = 1 + next(8);
        for (int i = 0; i < weights.length; i++) {
            weights[i] = next(6) == 0 ? 0 : WEIGHTS[i];
        }
        if (next(20) == 0) {
            weights[1] = 5000;
        }
        weights[9] = next(2) == 0 ? 1 : weights[9];
        while (calls < CALLS) {
            boolean right = next(25) == 0 ? writeText() : oneCall();
            if (!right) {
                System.out.println(told);
                return false;
            }
        }
        return true;
    }

    private boolean oneCall() {
        int sum = 0;
        for (int weight : weights) {
            sum += weight;
        }
        int at = next(sum);
        int which = 0;
        while (at >= weights[which]) {
            at -= weights[which];
            which++;
        }
        if (next(40) == 0) {
            return call(which, edge(), edge(), edge());
        }
        return call(which, plain(which, 0), plain(which, 1), plain(which, 2));
    }

    private int edge() {
        return EDGES[next(EDGES.length)];
    }

    private int plain(int which, int argument) {
        switch (NAMES[which]) {
            case "post": return argument == 0 ? next(codes) : argument == 1 ? next(2) : 1 + next(next(4) == 0 ? 20 : 6);
            case "setRange": return argument == 2 ? next(walks) : next(100);
            case "set": return argument == 0 ? next(11) : next(3) == 0 ? next(42) : next(8);
            case "assign": return argument == 0 ? next(walks) : next(7) - 1;
            case "take": case "restore": return next(2);
            case "append": return 45 + next(17);
            case "count": return next(19);
            case "letter": return argument == 0 ? next(1 + Math.max(real.count(6), 1)) : next(9);
            case "frame": return argument == 0 ? next(walks) : next(5);
            case "carrier": return argument == 0 ? next(6) : next(4);
            case "rounds": return argument == 0 ? next(6) : next(walks);
            case "stretch": return argument == 0 ? next(100) : next(3);
            case "inBag": return next(10);
            case "inFrame": return argument == 0 ? next(walks) : next(8);
            case "wouldOverflow": return next(3);
            case "bestCarrier": return next(walks);
            default: return next(6);
        }
    }

    private boolean writeText() {
        StringBuilder text = new StringBuilder();
        int ranges = 1 + next(next(3) == 0 ? 14 : 3);
        for (int i = 0; i < ranges; i++) {
            int from = next(100);
            int to = next(12) == 0 ? next(100) : from + next(100 - from);
            text.append(i == 0 ? "" : ";").append(from).append('-').append(to).append('=').append(next(walks));
        }
        if (next(3) == 0) {
            text.setCharAt(next(text.length()), (char) (next(3) == 0 ? 1 + next(255) : 45 + next(17)));
        }
        if (next(8) == 0) {
            text.setLength(next(text.length()));
        }
        boolean right = call(11, 0, 0, 0);
        for (int i = 0; i < text.length() && right; i++) {
            right = call(10, text.charAt(i), 0, 0);
        }
        return right && call(12, 0, 0, 0);
    }

    private boolean call(int which, int a, int b, int c) {
        calls++;
        int want = ofModel(which, a, b, c);
        int got = ofReal(which, a, b, c);
        told.append(NAMES[which]).append('(').append(a).append(", ").append(b).append(", ").append(c).append(") = ")
                .append(got).append(got == want ? "\n" : ", due is " + want + "\n");
        SEEN.merge(NAMES[which] + " " + (want < 0 ? (want <= -1000 ? "fault" : "" + want) : "number"), 1, Integer::sum);
        return got == want;
    }

    private int ofReal(int which, int a, int b, int c) {
        switch (which) {
            case 0: return real.post(a, b, c);
            case 1: return real.hour();
            case 2: return real.setRange(a, b, c);
            case 3: return real.set(a, b);
            case 4: return real.assign(a, b);
            case 5: return real.goOut(a);
            case 6: return real.comeBack(a);
            case 7: return real.take(a);
            case 8: return real.restore(a);
            case 9: return real.undo();
            case 10: return real.append(a);
            case 11: return real.clearText();
            case 12: return real.setRanges();
            case 13: return real.count(a);
            case 14: return real.letter(a, b);
            case 15: return real.frame(a, b);
            case 16: return real.carrier(a, b);
            case 17: return real.rounds(a, b);
            case 18: return real.stretch(a, b);
            case 19: return real.inBag(a);
            case 20: return real.inFrame(a, b);
            case 21: return real.clearIn();
            case 22: return real.wouldOverflow(a);
            case 23: return real.bestCarrier(a);
            default: return real.wouldDeliver(a);
        }
    }

    private int ofModel(int which, int a, int b, int c) {
        switch (which) {
            case 0: return model.post(a, b, c);
            case 1: return model.hour();
            case 2: return model.setRange(a, b, c);
            case 3: return model.set(a, b);
            case 4: return model.assign(a, b);
            case 5: return model.goOut(a);
            case 6: return model.comeBack(a);
            case 7: return model.take(a);
            case 8: return model.restore(a);
            case 9: return model.undo();
            case 10: return model.append(a);
            case 11: return model.clearText();
            case 12: return model.setRanges();
            case 13: return model.count(a);
            case 14: return model.letter(a, b);
            case 15: return model.frame(a, b);
            case 16: return model.carrier(a, b);
            case 17: return model.rounds(a, b);
            case 18: return model.stretch(a, b);
            case 19: return model.inBag(a);
            case 20: return model.inFrame(a, b);
            case 21: return model.clearIn();
            case 22: return model.wouldOverflow(a);
            case 23: return model.bestCarrier(a);
            default: return model.wouldDeliver(a);
        }
    }
}
