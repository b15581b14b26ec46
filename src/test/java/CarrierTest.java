/** Promises 6 to 8: assign, goOut, comeBack. */
public final class CarrierTest {
    private static final int LEAST = Integer.MIN_VALUE;
    private static final int GREATEST = Integer.MAX_VALUE;

    private CarrierTest() {
    }

    public static void main(String[] args) {
        Check c = new Check("CarrierTest");
        assign(c);
        assignWrong(c);
        goOut(c);
        goOutWrong(c);
        comeBackHalf(c);
        comeBackKnowing(c);
        comeBackToFullFrame(c);
        comeBackMisroutes(c);
        comeBackWrong(c);
        c.end();
    }

    /** Walk 0 has the carrier 2, and so many letters with the code 5 in its frame. */
    private static void frameOf(WalkFrames x, int letters) {
        x.set(0, 20);
        x.set(9, 40);
        x.post(5, 0, letters);
        x.hour();
        x.assign(0, 2);
    }

    private static void outWith(WalkFrames x, int letters) {
        frameOf(x, letters);
        x.goOut(2);
    }

    private static void assign(Check c) {
        WalkFrames x = new WalkFrames();
        c.due("assign", x.assign(3, 5), -9);
        c.due("walk of 5", x.carrier(5, 0), 3);
        c.due("carrier of 3", x.frame(3, 4), 5);
        c.due("the same again", x.assign(3, 5), 5);
        c.due("states", x.count(17), 2);
        c.due("another carrier", x.assign(3, 0), 5);
        c.due("walk of 5", x.carrier(5, 0), -9);
        c.due("walk of 0", x.carrier(0, 0), 3);
        c.due("the free one elsewhere", x.assign(7, 5), -9);
        c.due("taken away", x.assign(3, -1), 0);
        c.due("walk of 0", x.carrier(0, 0), -9);
        c.due("carrier of 3", x.frame(3, 4), -9);
        c.due("none to take away", x.assign(3, -1), -9);
        c.due("states", x.count(17), 5);
        c.due("undo", x.undo(), 4);
        c.due("undo", x.undo(), 3);
        c.due("carrier of 3", x.frame(3, 4), 0);
    }

    private static void assignWrong(Check c) {
        int[][] wrong = {{-1, 0}, {8, 0}, {0, -2}, {0, 6}, {LEAST, 0}, {GREATEST, 0}, {0, LEAST}, {0, GREATEST},
            {0, -9}};
        for (int[] a : wrong) {
            c.unchanged("wrong assign", x -> x.assign(0, 1), x -> x.assign(a[0], a[1]), -1);
        }
        c.unchanged("a carrier with another walk", x -> x.assign(0, 1), x -> x.assign(1, 1), -2);
        c.unchanged("wrong walk for it", x -> x.assign(0, 1), x -> x.assign(8, 1), -1);
        c.unchanged("a walk whose carrier is out", x -> outWith(x, 3), x -> x.assign(0, 3), -2);
        c.unchanged("the same one, who is out", x -> outWith(x, 3), x -> x.assign(0, 2), -2);
        c.unchanged("none for one who is out", x -> outWith(x, 3), x -> x.assign(0, -1), -2);
        c.unchanged("one who is out for another walk", x -> outWith(x, 3), x -> x.assign(1, 2), -2);
        c.unchanged("carrier 0 with another walk", x -> x.assign(7, 0), x -> x.assign(6, 0), -2);
        c.unchanged("carrier 0, who is out", x -> {
            frameOf(x, 3);
            x.assign(0, 0);
            x.goOut(0);
        }, x -> x.assign(0, 1), -2);
        WalkFrames x = new WalkFrames();
        outWith(x, 3);
        c.due("another walk is free to have one", x.assign(1, 3), -9);
        x.comeBack(2);
        c.due("behind the round", x.assign(0, -1), 2);
    }

    private static void goOut(Check c) {
        WalkFrames x = new WalkFrames();
        x.post(9, 0, 3);
        x.post(3, 1, 2);
        x.post(6, 0, 1);
        x.hour();
        x.assign(0, 2);
        x.set(10, 4);
        c.due("goOut", x.goOut(2), 4);
        c.due("out", x.carrier(2, 1), 1);
        c.due("in hand", x.carrier(2, 2), 4);
        c.due("in hands", x.count(3), 4);
        c.due("carriers out", x.count(9), 1);
        c.due("left in the frame", x.frame(0, 1), 2);
        int[] place = {3, 1, 1, 3, 3, 3};
        for (int letter = 0; letter < 6; letter++) {
            c.due("place of " + letter, x.letter(letter, 2), place[letter]);
        }
        c.due("hand", x.letter(5, 4), 2);
        c.due("no frame", x.letter(5, 3), -9);
        c.due("no hand", x.letter(1, 4), -9);
        c.due("undo", x.undo(), 4);
        c.due("in", x.carrier(2, 1), 0);
        c.due("in the frame", x.frame(0, 1), 6);
        c.due("what was set ahead of it stays", x.count(15), 4);
        WalkFrames y = new WalkFrames();
        frameOf(y, 9);
        c.due("a load of 8", y.goOut(2), 8);
        c.due("the last one stays", y.inFrame(0, 0), 8);
        WalkFrames z = new WalkFrames();
        frameOf(z, 20);
        z.set(10, 30);
        z.setRange(5, 5, 6);
        c.due("all of the frame, also strays", z.goOut(2), 20);
    }

    private static void goOutWrong(Check c) {
        for (int carrier : new int[] {-1, 6, LEAST, GREATEST}) {
            c.unchanged("wrong goOut", x -> frameOf(x, 3), x -> x.goOut(carrier), -1);
        }
        c.unchanged("goOut without a walk", x -> frameOf(x, 3), x -> x.goOut(1), -2);
        c.unchanged("goOut of one who is out", x -> outWith(x, 9), x -> x.goOut(2), -2);
        c.unchanged("goOut with an empty frame", x -> x.assign(4, 0), x -> x.goOut(0), -2);
        c.unchanged("goOut with letters in other frames", x -> {
            frameOf(x, 3);
            x.assign(4, 0);
        }, x -> x.goOut(0), -2);
    }

    private static void comeBackHalf(Check c) {
        WalkFrames x = new WalkFrames();
        outWith(x, 5);
        x.hour();
        c.due("half of 5, rounded up", x.comeBack(2), 3);
        int[] place = {4, 4, 4, 1, 1};
        for (int letter = 0; letter < 5; letter++) {
            c.due("place of " + letter, x.letter(letter, 2), place[letter]);
        }
        c.due("hour of delivery", x.letter(2, 7), 2);
        c.due("not delivered", x.letter(3, 7), -9);
        c.due("back in frame", x.letter(3, 3), 0);
        c.due("in", x.carrier(2, 1), 0);
        c.due("hand", x.carrier(2, 2), 0);
        c.due("delivered by 2", x.carrier(2, 3), 3);
        c.due("rounds", x.rounds(2, 0), 1);
        c.due("rounds on another walk", x.rounds(2, 1), 0);
        c.due("rounds of another carrier", x.rounds(1, 0), 0);
        c.due("all rounds", x.count(12), 1);
        c.due("states", x.count(17), 5);
        c.due("undo", x.undo(), 4);
        c.due("out again", x.carrier(2, 2), 5);
        c.due("rounds undone", x.rounds(2, 0), 0);
    }

    private static void comeBackKnowing(Check c) {
        WalkFrames x = new WalkFrames();
        outWith(x, 16);
        c.due("round 1", x.comeBack(2), 4);
        x.goOut(2);
        c.due("round 2", x.comeBack(2), 4);
        x.goOut(2);
        c.due("round 3, by one who knows", x.comeBack(2), 8);
        c.due("delivered by 2", x.carrier(2, 3), 16);
        c.due("delivered", x.count(4), 16);
        x.post(13, 0, 4);
        x.hour();
        x.assign(0, -1);
        x.assign(1, 2);
        x.goOut(2);
        c.due("another walk is not known", x.comeBack(2), 2);
        c.due("all rounds", x.count(12), 4);
        WalkFrames y = new WalkFrames();
        outWith(y, 1);
        c.due("half of 1", y.comeBack(2), 1);
    }

    private static void comeBackToFullFrame(Check c) {
        WalkFrames x = new WalkFrames();
        outWith(x, 8);
        x.set(0, 3);
        x.post(0, 0, 2);
        x.hour();
        c.due("half of 8", x.comeBack(2), 4);
        c.due("one goes back into the frame", x.letter(4, 2), 1);
        for (int letter = 5; letter < 8; letter++) {
            c.due("to the overflow goes " + letter, x.letter(letter, 2), 2);
        }
        c.due("frame", x.frame(0, 1), 3);
        c.due("the overflow is tried again", x.hour(), 3);
    }

    /** Letter 0 goes out, as a misroute, and comes back. */
    private static int misroute(WalkFrames x, int walk, int carrier) {
        x.setRange(5, 5, walk);
        x.hour();
        x.setRange(5, 5, 7);
        x.assign(walk, carrier);
        x.goOut(carrier);
        return x.comeBack(carrier);
    }

    private static void comeBackMisroutes(Check c) {
        WalkFrames x = new WalkFrames();
        x.post(5, 0, 1);
        c.due("first misroute", misroute(x, 0, 0), 0);
        c.due("in the bag", x.letter(0, 2), 0);
        c.due("misroutes", x.letter(0, 5), 1);
        c.due("second misroute", misroute(x, 1, 1), 0);
        c.due("in the bag", x.letter(0, 2), 0);
        c.due("misroutes", x.letter(0, 5), 2);
        c.due("third misroute", misroute(x, 2, 2), 0);
        c.due("sent back", x.letter(0, 2), 5);
        c.due("misroutes", x.letter(0, 5), 3);
        c.due("hour in which it was sent back", x.letter(0, 7), 3);
        c.due("sent back in all", x.count(5), 1);
        c.due("misroutes in all", x.count(11), 3);
        c.due("rounds in all", x.count(12), 3);
        c.due("no delivery", x.carrier(2, 3), 0);
        c.due("undo", x.undo(), 4);
        c.due("in hand again", x.letter(0, 4), 2);
        c.due("two misroutes again", x.count(11), 2);
        c.due("not yet sent back", x.letter(0, 7), -9);
        WalkFrames y = new WalkFrames();
        y.post(4, 0, 3);
        y.post(5, 0, 2);
        y.post(6, 0, 3);
        y.hour();
        y.set(0, 20);
        y.hour();
        y.assign(0, 4);
        y.goOut(4);
        y.setRange(5, 5, 1);
        c.due("half of the 6 that belong there", y.comeBack(4), 3);
        int[] place = {4, 4, 4, 0, 0, 1, 1, 1};
        for (int letter = 0; letter < 8; letter++) {
            c.due("place of " + letter, y.letter(letter, 2), place[letter]);
        }
    }

    private static void comeBackWrong(Check c) {
        for (int carrier : new int[] {-1, 6, LEAST, GREATEST}) {
            c.unchanged("wrong comeBack", x -> outWith(x, 3), x -> x.comeBack(carrier), -1);
        }
        c.unchanged("comeBack of one who is in", x -> frameOf(x, 3), x -> x.comeBack(2), -2);
        c.unchanged("comeBack of another", x -> outWith(x, 3), x -> x.comeBack(1), -2);
    }
}
