/** Promise 1: a new object, and the constants. */
public final class NewObjectTest {
    private static final int[] FIRST = {0, 13, 25, 38, 50, 63, 75, 88};
    private static final int[] LAST = {12, 24, 37, 49, 62, 74, 87, 99};

    private NewObjectTest() {
    }

    public static void main(String[] args) {
        Check c = new Check("NewObjectTest");
        c.due("INVALID_ARGUMENT", WalkFrames.INVALID_ARGUMENT, -1);
        c.due("ILLEGAL_STATE", WalkFrames.ILLEGAL_STATE, -2);
        c.due("CAPACITY_EXCEEDED", WalkFrames.CAPACITY_EXCEEDED, -3);
        c.due("NONE", WalkFrames.NONE, -9);
        counts(c);
        walks(c);
        carriers(c);
        c.end();
    }

    private static void counts(Check c) {
        WalkFrames x = new WalkFrames();
        int[] due = {0, 0, 0, 0, 0, 0, 0, 0, 8, 0, 0, 0, 0, 0, 10, 8, 0, 0, 0};
        for (int what = 0; what <= 18; what++) {
            c.due("count(" + what + ")", x.count(what), due[what]);
        }
        c.due("letter(0, 0)", x.letter(0, 0), -1);
        c.due("inBag(0)", x.inBag(0), -9);
        c.due("undo()", x.undo(), -2);
        c.due("restore(0)", x.restore(0), -2);
        c.due("restore(1)", x.restore(1), -2);
        c.due("clearText()", x.clearText(), 0);
        c.due("setRanges() of the empty text", x.setRanges(), -1000);
        c.due("clearIn()", x.clearIn(), 0);
        c.due("wouldOverflow(0)", x.wouldOverflow(0), 0);
    }

    private static void walks(Check c) {
        WalkFrames x = new WalkFrames();
        for (int walk = 0; walk < 8; walk++) {
            for (int code = FIRST[walk]; code <= LAST[walk]; code++) {
                c.due("stretch(" + code + ", 0)", x.stretch(code, 0), walk);
            }
            c.due("stretch first", x.stretch(FIRST[walk], 1), FIRST[walk]);
            c.due("stretch last", x.stretch(FIRST[walk], 2), LAST[walk]);
            c.due("holes of " + walk, x.frame(walk, 0), 6);
            c.due("letters in " + walk, x.frame(walk, 1), 0);
            c.due("free holes of " + walk, x.frame(walk, 2), 6);
            c.due("carrier of " + walk, x.frame(walk, 4), -9);
            c.due("inFrame " + walk, x.inFrame(walk, 0), -9);
            c.due("bestCarrier " + walk, x.bestCarrier(walk), 0);
        }
    }

    private static void carriers(Check c) {
        WalkFrames x = new WalkFrames();
        int[] due = {-9, 0, 0, 0};
        for (int carrier = 0; carrier < 6; carrier++) {
            for (int what = 0; what <= 3; what++) {
                c.due("carrier(" + carrier + ", " + what + ")", x.carrier(carrier, what), due[what]);
            }
            for (int walk = 0; walk < 8; walk++) {
                c.due("rounds(" + carrier + ", " + walk + ")", x.rounds(carrier, walk), 0);
            }
            c.due("wouldDeliver(" + carrier + ")", x.wouldDeliver(carrier), -2);
        }
    }
}
