/** Promises 15 to 22: count, letter, frame, carrier, rounds, stretch, inBag, inFrame. */
public final class LookingTest {
    private static final int LEAST = Integer.MIN_VALUE;
    private static final int GREATEST = Integer.MAX_VALUE;

    private LookingTest() {
    }

    public static void main(String[] args) {
        Check c = new Check("LookingTest");
        count(c);
        letter(c);
        frame(c);
        carrier(c);
        rounds(c);
        stretch(c);
        inBag(c);
        inFrame(c);
        looksChangeNothing(c);
        c.end();
    }

    /** Letters 0 to 8 with code 3, 9 and 10 of the first class with 14, 11 and 12 with 50. */
    private static WalkFrames office() {
        WalkFrames x = new WalkFrames();
        x.set(0, 5);
        x.set(9, 12);
        x.set(10, 4);
        x.post(3, 0, 9);
        x.post(14, 1, 2);
        x.hour();
        x.post(50, 0, 2);
        x.assign(0, 1);
        x.goOut(1);
        return x;
    }

    private static void count(Check c) {
        WalkFrames x = office();
        Check.append(x, "abc");
        int[] due = {2, 3, 4, 4, 0, 0, 13, 1, 8, 1, 0, 0, 0, 0, 12, 4, 0, 5, 3};
        for (int what = 0; what <= 18; what++) {
            c.due("count(" + what + ") with one out", x.count(what), due[what]);
        }
        x.setRange(14, 14, 0);
        x.setRange(3, 3, 1);
        x.comeBack(1);
        x.set(8, 2);
        x.take(1);
        int[] then = {6, 3, 4, 0, 0, 0, 13, 1, 12, 0, 3, 4, 1, 2, 12, 4, 1, 5, 3};
        for (int what = 0; what <= 18; what++) {
            c.due("count(" + what + ") behind misroutes", x.count(what), then[what]);
        }
        for (int what : new int[] {-1, 19, LEAST, GREATEST}) {
            c.unchanged("wrong count", y -> y.post(3, 0, 2), y -> y.count(what), -1);
        }
    }

    private static void letter(Check c) {
        WalkFrames x = office();
        int[][] due = {
            {3, 0, 3, -9, 1, 0, 0, -9, 0},
            {3, 0, 1, 0, -9, 0, 0, -9, 0},
            {3, 0, 2, -9, -9, 0, 0, -9, 0},
            {14, 1, 1, 1, -9, 0, 0, -9, 1},
            {50, 0, 0, -9, -9, 0, 1, -9, 4}};
        int[] letters = {0, 4, 5, 9, 12};
        for (int i = 0; i < letters.length; i++) {
            for (int what = 0; what <= 8; what++) {
                c.due("letter(" + letters[i] + ", " + what + ")", x.letter(letters[i], what), due[i][what]);
            }
        }
        x.hour();
        x.comeBack(1);
        int[] delivered = {3, 0, 4, -9, -9, 0, 0, 2, 0};
        for (int what = 0; what <= 8; what++) {
            c.due("delivered letter, " + what, x.letter(1, what), delivered[what]);
        }
        int[][] wrong = {{-1, 0}, {2, 0}, {0, -1}, {0, 9}, {LEAST, 0}, {GREATEST, 0}, {0, LEAST}, {0, GREATEST},
            {119, 0}, {120, 0}};
        for (int[] a : wrong) {
            c.unchanged("wrong letter", y -> y.post(3, 0, 2), y -> y.letter(a[0], a[1]), -1);
        }
    }

    private static void frame(Check c) {
        WalkFrames x = office();
        int[][] due = {{5, 1, 4, 0, 1}, {6, 2, 4, 2, -9}, {6, 0, 6, 0, -9}};
        for (int walk = 0; walk < 3; walk++) {
            for (int what = 0; what <= 4; what++) {
                c.due("frame(" + walk + ", " + what + ")", x.frame(walk, what), due[walk][what]);
            }
        }
        x.set(1, 1);
        c.due("no hole free", x.frame(1, 2), 0);
        c.due("more letters than holes", x.frame(1, 1), 2);
        c.due("walk 7", x.frame(7, 0), 6);
        WalkFrames first = new WalkFrames();
        first.post(99, 1, 2);
        first.post(99, 0, 1);
        first.hour();
        c.due("first class", first.frame(7, 3), 2);
        first.assign(7, 0);
        first.goOut(0);
        c.due("first class gone", first.frame(7, 3), 0);
        c.due("carrier 0 is out", first.count(9), 1);
        c.due("carrier 0 of the walk", first.frame(7, 4), 0);
        int[][] wrong = {{-1, 0}, {8, 0}, {0, -1}, {0, 5}, {LEAST, 0}, {GREATEST, 0}, {0, LEAST}, {0, GREATEST}};
        for (int[] a : wrong) {
            c.unchanged("wrong frame", y -> y.post(3, 0, 2), y -> y.frame(a[0], a[1]), -1);
        }
    }

    private static void carrier(Check c) {
        WalkFrames x = office();
        int[] due = {0, 1, 4, 0};
        for (int what = 0; what <= 3; what++) {
            c.due("carrier(1, " + what + ")", x.carrier(1, what), due[what]);
        }
        x.comeBack(1);
        int[] then = {0, 0, 0, 2};
        for (int what = 0; what <= 3; what++) {
            c.due("carrier(1, " + what + ") back", x.carrier(1, what), then[what]);
        }
        x.goOut(1);
        x.comeBack(1);
        c.due("delivered so far", x.carrier(1, 3), 4);
        x.assign(0, -1);
        c.due("no walk", x.carrier(1, 0), -9);
        c.due("delivered so far", x.carrier(1, 3), 4);
        c.due("carrier 5", x.carrier(5, 0), -9);
        int[][] wrong = {{-1, 0}, {6, 0}, {0, -1}, {0, 4}, {LEAST, 0}, {GREATEST, 0}, {0, LEAST}, {0, GREATEST}};
        for (int[] a : wrong) {
            c.unchanged("wrong carrier", y -> y.post(3, 0, 2), y -> y.carrier(a[0], a[1]), -1);
        }
    }

    private static void rounds(Check c) {
        WalkFrames x = office();
        c.due("rounds of one who is out", x.rounds(1, 0), 0);
        x.comeBack(1);
        c.due("rounds", x.rounds(1, 0), 1);
        c.due("rounds elsewhere", x.rounds(1, 1), 0);
        c.due("rounds of another", x.rounds(0, 1), 0);
        x.goOut(1);
        x.comeBack(1);
        c.due("rounds", x.rounds(1, 0), 2);
        x.assign(1, 5);
        x.goOut(5);
        x.comeBack(5);
        c.due("rounds of 5", x.rounds(5, 1), 1);
        c.due("all", x.count(12), 3);
        c.due("rounds(5, 7)", x.rounds(5, 7), 0);
        int[][] wrong = {{-1, 0}, {6, 0}, {0, -1}, {0, 8}, {LEAST, 0}, {GREATEST, 0}, {0, LEAST}, {0, GREATEST}};
        for (int[] a : wrong) {
            c.unchanged("wrong rounds", y -> y.post(3, 0, 2), y -> y.rounds(a[0], a[1]), -1);
        }
    }

    private static void stretch(Check c) {
        WalkFrames x = new WalkFrames();
        x.setRange(10, 19, 3);
        x.setRange(40, 45, 2);
        int[][] due = {{0, 0, 0, 9}, {9, 0, 0, 9}, {10, 3, 10, 19}, {19, 3, 10, 19}, {20, 1, 20, 24},
            {25, 2, 25, 37}, {38, 3, 38, 39}, {42, 2, 40, 45}, {49, 3, 46, 49}, {99, 7, 88, 99}};
        for (int[] d : due) {
            for (int what = 0; what <= 2; what++) {
                c.due("stretch(" + d[0] + ", " + what + ")", x.stretch(d[0], what), d[what + 1]);
            }
        }
        x.setRange(38, 39, 2);
        c.due("grown together", x.stretch(30, 2), 45);
        c.due("grown together", x.stretch(45, 1), 25);
        x.setRange(0, 99, 6);
        c.due("all: first", x.stretch(50, 1), 0);
        c.due("all: last", x.stretch(50, 2), 99);
        int[][] wrong = {{-1, 0}, {100, 0}, {0, -1}, {0, 3}, {LEAST, 0}, {GREATEST, 0}, {0, LEAST}, {0, GREATEST}};
        for (int[] a : wrong) {
            c.unchanged("wrong stretch", y -> y.post(3, 0, 2), y -> y.stretch(a[0], a[1]), -1);
        }
    }

    private static void inBag(Check c) {
        WalkFrames x = MailTest.bagWithMisroute();
        x.post(1, 1, 2);
        int[] due = {4, 5, 2, 0, -9};
        for (int place = 0; place < due.length; place++) {
            c.due("inBag(" + place + ")", x.inBag(place), due[place]);
        }
        c.due("far place", x.inBag(GREATEST), -9);
        c.unchanged("wrong inBag", y -> y.post(3, 0, 2), y -> y.inBag(-1), -1);
        c.unchanged("wrong inBag", y -> y.post(3, 0, 2), y -> y.inBag(LEAST), -1);
        WalkFrames full = new WalkFrames();
        for (int i = 0; i < 6; i++) {
            full.post(0, 0, 20);
        }
        c.due("last of 120", full.inBag(119), 119);
        c.due("behind 120", full.inBag(120), -9);
    }

    private static void inFrame(Check c) {
        WalkFrames x = new WalkFrames();
        x.post(9, 1, 2);
        x.post(3, 0, 1);
        x.post(9, 0, 1);
        x.post(6, 0, 1);
        x.post(3, 1, 1);
        x.post(20, 0, 1);
        x.hour();
        int[] due = {2, 5, 4, 0, 1, 3, -9};
        for (int place = 0; place < due.length; place++) {
            c.due("inFrame(0, " + place + ")", x.inFrame(0, place), due[place]);
        }
        c.due("inFrame(1, 0)", x.inFrame(1, 0), 6);
        c.due("inFrame(7, 0)", x.inFrame(7, 0), -9);
        c.due("far place", x.inFrame(0, GREATEST), -9);
        int[][] wrong = {{-1, 0}, {8, 0}, {0, -1}, {7, -1}, {LEAST, 0}, {GREATEST, 0}, {0, LEAST}};
        for (int[] a : wrong) {
            c.unchanged("wrong inFrame", y -> y.post(3, 0, 2), y -> y.inFrame(a[0], a[1]), -1);
        }
    }

    private static void looksChangeNothing(Check c) {
        WalkFrames x = office();
        x.inBag(0);
        x.inFrame(0, 0);
        for (int what = 0; what <= 18; what++) {
            x.count(what);
        }
        c.same("looking", Look.all(x), Look.all(office()));
    }
}
