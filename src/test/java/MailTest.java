/** Promises 2 to 5: post, hour, setRange, set. */
public final class MailTest {
    private static final int LEAST = Integer.MIN_VALUE;
    private static final int GREATEST = Integer.MAX_VALUE;

    private MailTest() {
    }

    public static void main(String[] args) {
        Check c = new Check("MailTest");
        post(c);
        postWrong(c);
        hourSpeed(c);
        hourOverflow(c);
        hourRuleFirstClass(c);
        hourRuleMostFree(c);
        hourOrderByMisroutes(c);
        hourLast(c);
        setRange(c);
        setRangeWrong(c);
        set(c);
        setWrong(c);
        c.end();
    }

    private static void post(Check c) {
        WalkFrames x = new WalkFrames();
        c.due("first post", x.post(0, 0, 1), 0);
        x.hour();
        c.due("second post", x.post(99, 1, 20), 1);
        c.due("third post", x.post(50, 0, 3), 21);
        c.due("letters", x.count(6), 24);
        c.due("letters in the bag", x.count(0), 23);
        c.due("states", x.count(17), 4);
        c.due("code", x.letter(20, 0), 99);
        c.due("class", x.letter(20, 1), 1);
        c.due("place", x.letter(20, 2), 0);
        c.due("misroutes", x.letter(20, 5), 0);
        c.due("hour in which the first came", x.letter(0, 6), 0);
        c.due("hour in which it came", x.letter(20, 6), 1);
        c.due("not delivered", x.letter(20, 7), -9);
        c.due("undone post", x.undo(), 3);
        c.due("letters behind undo", x.count(6), 21);
        c.due("post behind undo", x.post(7, 1, 1), 21);
        c.due("its code", x.letter(21, 0), 7);
    }

    private static void fill(WalkFrames x, int letters) {
        for (int left = letters; left > 0; left -= 20) {
            x.post(5, 1, Math.min(left, 20));
        }
    }

    private static void postWrong(Check c) {
        int[][] wrong = {{-1, 0, 1}, {100, 0, 1}, {0, -1, 1}, {0, 2, 1}, {0, 0, 0}, {0, 0, 21}, {0, 0, -1},
            {LEAST, 0, 1}, {GREATEST, 0, 1}, {0, LEAST, 1}, {0, GREATEST, 1}, {0, 0, LEAST}, {0, 0, GREATEST}};
        for (int[] a : wrong) {
            c.unchanged("wrong post", x -> x.post(1, 0, 2), x -> x.post(a[0], a[1], a[2]), -1);
        }
        c.unchanged("post into 120", x -> fill(x, 120), x -> x.post(0, 0, 1), -3);
        c.unchanged("post of 2 into 119", x -> fill(x, 119), x -> x.post(0, 0, 2), -3);
        c.unchanged("post of 20 into 101", x -> fill(x, 101), x -> x.post(0, 0, 20), -3);
        c.unchanged("wrong post into 120", x -> fill(x, 120), x -> x.post(0, 0, 21), -1);
        WalkFrames x = new WalkFrames();
        fill(x, 119);
        c.due("post of 1 into 119", x.post(0, 0, 1), 119);
        c.due("letters", x.count(6), 120);
        WalkFrames y = new WalkFrames();
        fill(y, 100);
        c.due("post of 20 into 100", y.post(0, 0, 20), 100);
    }

    private static void hourSpeed(Check c) {
        WalkFrames x = new WalkFrames();
        x.post(0, 0, 4);
        x.post(13, 1, 4);
        x.post(25, 0, 4);
        x.set(9, 5);
        c.due("hour", x.hour(), 0);
        c.due("present hour", x.count(7), 1);
        c.due("in frames", x.count(1), 5);
        c.due("first class in frame 1", x.frame(1, 3), 4);
        c.due("in frame 0", x.frame(0, 1), 1);
        c.due("the letter there", x.inFrame(0, 0), 0);
        c.due("left in the bag", x.count(0), 7);
        c.due("hour 2", x.hour(), 0);
        c.due("in frame 2", x.frame(2, 1), 2);
        c.due("hour 3", x.hour(), 0);
        c.due("in the bag", x.count(0), 0);
        c.due("an hour with an empty bag", x.hour(), 0);
        c.due("present hour", x.count(7), 4);
        c.due("states", x.count(17), 5);
    }

    private static void hourOverflow(Check c) {
        WalkFrames x = new WalkFrames();
        x.set(0, 2);
        x.post(0, 0, 5);
        c.due("hour", x.hour(), 3);
        c.due("place of 1", x.letter(1, 2), 1);
        c.due("place of 2", x.letter(2, 2), 2);
        x.post(0, 1, 1);
        x.set(9, 2);
        c.due("the overflow goes to the bag first", x.hour(), 2);
        c.due("first class first", x.letter(5, 2), 2);
        c.due("then the smallest number", x.letter(2, 2), 2);
        c.due("the others stay in the bag", x.letter(3, 2), 0);
        c.due("bag", x.count(0), 2);
        x.set(0, 3);
        x.set(9, 10);
        c.due("one more hole", x.hour(), 3);
        c.due("taken by the first class", x.letter(5, 3), 0);
    }

    private static void hourRuleFirstClass(Check c) {
        WalkFrames x = new WalkFrames();
        x.set(8, 1);
        x.set(0, 2);
        x.post(1, 0, 2);
        x.hour();
        x.post(2, 1, 1);
        c.due("one is displaced", x.hour(), 1);
        c.due("the one with the greatest number", x.letter(1, 2), 2);
        c.due("the first class goes in", x.letter(2, 3), 0);
        c.due("the displaced one does not displace", x.hour(), 1);
        c.due("it is in the overflow", x.letter(1, 2), 2);
        x.post(3, 1, 2);
        c.due("two more of the first class", x.hour(), 3);
        c.due("the first of them displaces", x.letter(3, 3), 0);
        c.due("none is left for the second", x.letter(4, 2), 2);
        c.due("letter 0 was displaced", x.letter(0, 2), 2);
        c.due("frame 0", x.frame(0, 1), 2);
        WalkFrames y = new WalkFrames();
        y.set(8, 1);
        y.post(1, 0, 4);
        y.hour();
        y.set(0, 1);
        y.post(1, 1, 1);
        c.due("displaced from a frame that is too full", y.hour(), 1);
        c.due("letters as before", y.frame(0, 1), 4);
        c.due("of the first class", y.frame(0, 3), 1);
        c.due("free", y.frame(0, 2), 0);
        c.due("other frames are not asked", y.frame(1, 1), 0);
        displacesTheLastLetter(c);
    }

    /** Letter 0 comes back from another frame, and displaces letter 1, behind which no letter has come. */
    private static void displacesTheLastLetter(Check c) {
        WalkFrames x = new WalkFrames();
        x.set(0, 1);
        x.post(99, 1, 1);
        x.post(0, 0, 1);
        x.hour();
        x.setRange(99, 99, 0);
        x.assign(7, 3);
        x.goOut(3);
        x.comeBack(3);
        c.due("overflow by the rule 1", x.wouldOverflow(1), 1);
        x.set(8, 1);
        c.due("hour", x.hour(), 1);
        c.due("the first class is in", x.letter(0, 3), 0);
        c.due("the last letter is displaced", x.letter(1, 2), 2);
    }

    private static void hourRuleMostFree(Check c) {
        WalkFrames x = new WalkFrames();
        x.set(8, 2);
        for (int walk = 0; walk < 8; walk++) {
            x.set(walk, 1);
        }
        x.set(6, 2);
        x.set(3, 2);
        x.post(0, 0, 6);
        c.due("all find holes", x.hour(), 0);
        int[] due = {0, 3, 6, 1, 2, 3};
        for (int letter = 0; letter < 6; letter++) {
            c.due("frame of " + letter, x.letter(letter, 3), due[letter]);
        }
        x.post(0, 0, 5);
        c.due("the last one finds none", x.hour(), 1);
        c.due("it is the last", x.letter(10, 2), 2);
        c.due("the one before is in", x.letter(9, 3), 7);
        c.due("not where they belong", x.count(10), 9);
        WalkFrames y = new WalkFrames();
        y.set(8, 2);
        y.set(7, 1);
        y.post(99, 0, 2);
        y.hour();
        c.due("all others have six free, 0 is the smallest", y.letter(1, 3), 0);
    }

    /** Letter 2 was misrouted, letter 0 comes back to the bag beside it. */
    static WalkFrames bagWithMisroute() {
        WalkFrames x = new WalkFrames();
        x.set(0, 1);
        x.post(0, 0, 1);
        x.post(0, 1, 1);
        x.post(30, 0, 1);
        x.hour();
        x.post(50, 1, 1);
        x.set(9, 1);
        x.hour();
        x.setRange(30, 30, 0);
        x.assign(2, 0);
        x.goOut(0);
        x.comeBack(0);
        return x;
    }

    private static void hourOrderByMisroutes(Check c) {
        WalkFrames x = bagWithMisroute();
        c.due("first in the bag", x.inBag(0), 2);
        c.due("second in the bag", x.inBag(1), 0);
        c.due("no third", x.inBag(2), -9);
        c.due("hour", x.hour(), 1);
        c.due("the misroute went first", x.letter(2, 2), 2);
        c.due("the other stays", x.letter(0, 2), 0);
    }

    private static void hourLast(Check c) {
        WalkFrames x = new WalkFrames();
        for (int i = 1; i <= 500; i++) {
            x.hour();
        }
        c.due("present hour", x.count(7), 500);
        c.due("hour 501", x.hour(), -3);
        c.due("present hour still", x.count(7), 500);
        c.due("undo", x.undo(), 4);
        c.due("hour 499", x.count(7), 499);
        c.due("hour 500 again", x.hour(), 0);
    }

    private static void setRange(Check c) {
        WalkFrames x = new WalkFrames();
        x.post(10, 0, 1);
        x.hour();
        c.due("a stretch more", x.setRange(10, 10, 7), 10);
        c.due("walk of 9", x.stretch(9, 0), 0);
        c.due("walk of 10", x.stretch(10, 0), 7);
        c.due("walk of 11", x.stretch(11, 0), 0);
        c.due("the letter stays", x.letter(0, 3), 0);
        c.due("it belongs to another walk", x.letter(0, 8), 7);
        c.due("strays", x.count(10), 1);
        c.due("the same again", x.setRange(10, 10, 7), 10);
        c.due("states", x.count(17), 4);
        c.due("all codes", x.setRange(0, 99, 3), 1);
        c.due("last code", x.setRange(99, 99, 0), 2);
        c.due("first code", x.setRange(0, 0, 0), 3);
        x.undo();
        x.undo();
        c.due("undone", x.count(8), 1);
    }

    private static void setRangeWrong(Check c) {
        int[][] wrong = {{-1, 5, 0}, {100, 100, 0}, {5, 4, 0}, {5, 100, 0}, {5, 6, -1}, {5, 6, 8},
            {LEAST, 0, 0}, {0, GREATEST, 0}, {0, LEAST, 0}, {0, 0, LEAST}, {0, 0, GREATEST}};
        for (int[] a : wrong) {
            c.unchanged("wrong setRange", x -> x.post(1, 0, 2), x -> x.setRange(a[0], a[1], a[2]), -1);
        }
    }

    private static void set(Check c) {
        WalkFrames x = new WalkFrames();
        int[] due = {6, 6, 6, 6, 6, 6, 6, 6, 0, 10, 8};
        int[] least = {1, 1, 1, 1, 1, 1, 1, 1, 0, 1, 1};
        int[] most = {20, 20, 20, 20, 20, 20, 20, 20, 2, 40, 30};
        for (int what = 0; what <= 10; what++) {
            int w = what;
            c.due("set(" + what + ") to the greatest", x.set(what, most[what]), due[what]);
            c.due("set(" + what + ") to the least", x.set(what, least[what]), most[what]);
            c.due("set(" + what + ") to the same", x.set(what, least[what]), least[what]);
            c.unchanged("set above", y -> y.hour(), y -> y.set(w, most[w] + 1), -1);
            c.unchanged("set below", y -> y.hour(), y -> y.set(w, least[w] - 1), -1);
        }
        c.due("holes", x.frame(7, 0), 1);
        c.due("rule", x.count(13), 0);
        c.due("speed", x.count(14), 1);
        c.due("load", x.count(15), 1);
        c.due("states", x.count(17), 5);
        WalkFrames y = new WalkFrames();
        y.post(0, 0, 6);
        y.hour();
        c.due("fewer holes", y.set(0, 2), 6);
        c.due("the letters stay", y.frame(0, 1), 6);
        c.due("none is free", y.frame(0, 2), 0);
        c.due("undo", y.undo(), 2);
        c.due("holes again", y.frame(0, 0), 6);
    }

    private static void setWrong(Check c) {
        int[][] wrong = {{-1, 1}, {11, 1}, {LEAST, 1}, {GREATEST, 1}, {0, LEAST}, {0, GREATEST}, {8, GREATEST}};
        for (int[] a : wrong) {
            c.unchanged("wrong set", x -> x.post(1, 0, 2), x -> x.set(a[0], a[1]), -1);
        }
    }
}
