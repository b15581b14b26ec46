/** Promises 23 to 26: clearIn, wouldOverflow, bestCarrier, wouldDeliver. */
public final class ForecastTest {
    private static final int LEAST = Integer.MIN_VALUE;
    private static final int GREATEST = Integer.MAX_VALUE;

    private ForecastTest() {
    }

    public static void main(String[] args) {
        Check c = new Check("ForecastTest");
        clearIn(c);
        clearInBorder(c);
        clearInLateHour(c);
        wouldOverflow(c);
        bestCarrier(c);
        wouldDeliver(c);
        wrong(c);
        changesNothing(c);
        c.end();
    }

    private static void clearIn(Check c) {
        WalkFrames x = new WalkFrames();
        c.due("nothing to clear", x.clearIn(), 0);
        x.post(0, 0, 1);
        c.due("one letter", x.clearIn(), 1);
        x.set(9, 1);
        x.post(13, 0, 3);
        c.due("four letters, one an hour", x.clearIn(), 4);
        x.hour();
        c.due("an hour later", x.clearIn(), 3);
        x.set(1, 2);
        c.due("too few holes", x.clearIn(), -9);
        x.set(8, 2);
        c.due("by the rule 2", x.clearIn(), 3);
        x.set(8, 1);
        c.due("by the rule 1", x.clearIn(), -9);
        WalkFrames y = new WalkFrames();
        y.set(0, 1);
        y.post(0, 0, 2);
        y.hour();
        c.due("an overflow, but no bag", y.count(0), 0);
        c.due("never", y.clearIn(), -9);
        y.set(0, 2);
        c.due("only an overflow", y.clearIn(), 1);
        WalkFrames z = new WalkFrames();
        z.set(8, 1);
        z.set(0, 1);
        z.post(0, 0, 1);
        z.hour();
        z.post(0, 1, 1);
        c.due("displacing for ever", z.clearIn(), -9);
    }

    private static void clearInBorder(Check c) {
        WalkFrames x = new WalkFrames();
        x.set(9, 1);
        for (int walk = 0; walk < 8; walk++) {
            x.set(walk, 20);
        }
        for (int i = 0; i < 4; i++) {
            x.post(20 * i, 0, 15);
        }
        c.due("60 hours", x.clearIn(), 60);
        x.post(99, 0, 1);
        c.due("61 hours", x.clearIn(), -9);
        x.hour();
        c.due("60 hours again", x.clearIn(), 60);
    }

    private static void clearInLateHour(Check c) {
        WalkFrames x = new WalkFrames();
        for (int i = 0; i < 500; i++) {
            x.hour();
        }
        x.post(0, 0, 2);
        x.set(9, 1);
        c.due("beyond the hour 500", x.clearIn(), 2);
        x.set(0, 1);
        c.due("overflow behind the hour 501", x.wouldOverflow(0), 0);
        x.set(9, 2);
        c.due("overflow behind the hour 501", x.wouldOverflow(0), 1);
        c.due("present hour", x.count(7), 500);
    }

    private static void wouldOverflow(Check c) {
        WalkFrames x = new WalkFrames();
        x.set(0, 2);
        x.post(0, 0, 2);
        x.hour();
        x.post(1, 1, 1);
        x.post(1, 0, 1);
        c.due("rule 0", x.wouldOverflow(0), 2);
        c.due("rule 1: one in for one out", x.wouldOverflow(1), 2);
        c.due("rule 2", x.wouldOverflow(2), 0);
        c.due("the rule stays", x.count(13), 0);
        c.due("the hour stays", x.count(7), 1);
        x.set(8, 2);
        c.due("rule 0, though 2 is set", x.wouldOverflow(0), 2);
        x.set(9, 1);
        c.due("one letter an hour", x.wouldOverflow(0), 1);
        WalkFrames y = new WalkFrames();
        y.set(0, 1);
        y.post(0, 0, 5);
        y.hour();
        c.due("the overflow of now", y.count(2), 4);
        y.set(9, 3);
        c.due("it goes to the bag first", y.wouldOverflow(0), 3);
    }

    /** So many rounds of the carrier on the walk, from one hour to the next. */
    private static void go(WalkFrames x, int carrier, int walk, int many) {
        x.assign(walk, carrier);
        for (int i = 0; i < many; i++) {
            x.post(walk * 12 + 1, 0, 1);
            x.hour();
            x.goOut(carrier);
            x.comeBack(carrier);
        }
        x.assign(walk, -1);
    }

    private static void bestCarrier(Check c) {
        WalkFrames x = new WalkFrames();
        c.due("none has gone", x.bestCarrier(3), 0);
        x.assign(0, 0);
        c.due("0 has a walk", x.bestCarrier(3), 1);
        x.assign(0, -1);
        go(x, 2, 1, 1);
        go(x, 4, 1, 2);
        go(x, 5, 1, 2);
        go(x, 3, 2, 4);
        c.due("the most, of several the smallest", x.bestCarrier(1), 4);
        c.due("on another walk", x.bestCarrier(2), 3);
        c.due("on a third one", x.bestCarrier(3), 0);
        x.assign(1, 4);
        c.due("4 has a walk, this one", x.bestCarrier(1), 5);
        x.assign(6, 5);
        c.due("5 has another", x.bestCarrier(1), 2);
        x.assign(2, 0);
        x.assign(3, 1);
        x.assign(4, 2);
        x.assign(5, 3);
        c.due("each has one", x.bestCarrier(1), -9);
    }

    private static void wouldDeliver(Check c) {
        WalkFrames x = new WalkFrames();
        x.post(5, 0, 5);
        x.hour();
        c.due("no walk", x.wouldDeliver(0), -2);
        x.assign(0, 0);
        x.assign(1, 1);
        c.due("an empty frame", x.wouldDeliver(1), -2);
        c.due("half of 5, rounded up", x.wouldDeliver(0), 3);
        x.set(10, 2);
        c.due("half of the load", x.wouldDeliver(0), 1);
        x.goOut(0);
        x.set(10, 30);
        c.due("half of those in hand", x.wouldDeliver(0), 1);
        c.due("still out", x.carrier(0, 1), 1);
        x.setRange(5, 5, 1);
        c.due("misroutes", x.wouldDeliver(0), 0);
        x.setRange(5, 5, 0);
        c.due("comeBack", x.comeBack(0), 1);
        x.goOut(0);
        c.due("comeBack", x.comeBack(0), 2);
        c.due("one who knows delivers all", x.wouldDeliver(0), 2);
        c.due("rounds", x.rounds(0, 0), 2);
        x.setRange(0, 99, 7);
        c.due("all are misroutes", x.wouldDeliver(0), 0);
        x.setRange(0, 99, 0);
        x.goOut(0);
        c.due("out", x.wouldDeliver(0), 2);
        c.due("comeBack", x.comeBack(0), 2);
        c.due("an empty frame", x.wouldDeliver(0), -2);
    }

    private static void wrong(Check c) {
        for (int rule : new int[] {-1, 3, LEAST, GREATEST}) {
            c.unchanged("wrong wouldOverflow", x -> x.post(3, 0, 2), x -> x.wouldOverflow(rule), -1);
        }
        for (int walk : new int[] {-1, 8, LEAST, GREATEST}) {
            c.unchanged("wrong bestCarrier", x -> x.post(3, 0, 2), x -> x.bestCarrier(walk), -1);
        }
        for (int carrier : new int[] {-1, 6, LEAST, GREATEST}) {
            c.unchanged("wrong wouldDeliver", x -> x.post(3, 0, 2), x -> x.wouldDeliver(carrier), -1);
        }
        c.unchanged("wouldDeliver without a walk", x -> x.post(3, 0, 2), x -> x.wouldDeliver(5), -2);
    }

    private static void prepare(WalkFrames x) {
        x.set(0, 3);
        x.post(5, 0, 5);
        x.post(6, 1, 2);
        x.hour();
        x.assign(0, 0);
        x.set(10, 2);
        x.goOut(0);
        x.post(14, 0, 1);
        x.take(1);
    }

    private static void changesNothing(Check c) {
        c.unchanged("clearIn", ForecastTest::prepare, x -> x.clearIn(), -9);
        c.unchanged("wouldOverflow", ForecastTest::prepare, x -> x.wouldOverflow(2), 0);
        c.unchanged("bestCarrier", ForecastTest::prepare, x -> x.bestCarrier(2), 1);
        c.unchanged("wouldDeliver", ForecastTest::prepare, x -> x.wouldDeliver(0), 1);
    }
}
