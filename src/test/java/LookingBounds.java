/** Tests of the sentences of the promises 15 to 22. */
final class LookingBounds {
    private static final String BUSY = Check.BUSY + " ";

    private LookingBounds() {
    }

    @Says(under = "Promise 15: count", sentence = "- `what`: 0 to 5 the number of letters with this place, 6 of all letters, 7 the"
            + " present hour, 8 the number of stretches, 9 of carriers that are out, 10 of letters in frames of walks to which"
            + " they do not belong, 11 of all misroutes so far, 12 of rounds that have come back so far, 13 the rule, 14 the"
            + " speed, 15 the load, 16 the number of snapshots, 17 of states in the history, 18 the length of the text")
    static void countWhat(Check c) {
        c.answers("count(0)=0 count(1)=0 count(2)=0 count(3)=0 count(4)=0 count(5)=0 count(6)=0 count(7)=0 count(8)=8 count(9)=0"
                + " count(10)=0 count(11)=0 count(12)=0 count(13)=0 count(14)=10 count(15)=8 count(16)=0 count(17)=0 count(18)=0");
        c.answers(BUSY + "count(0)=2 count(1)=1 count(2)=3 count(3)=3 count(4)=2 count(5)=1 count(6)=12 count(7)=4 count(8)=10"
                + " count(9)=1 count(10)=0 count(11)=3 count(12)=4 count(13)=0 count(14)=10 count(15)=3 count(16)=1 count(17)=5"
                + " count(18)=4");
        // Letters in frames alone can be where they do not belong.
        c.answers(BUSY + "setRange(0,99,3) count(10)=1 setRange(30,30,2) count(10)=0");
        // The greatest numbers.
        c.answers("6*post(0,0,20) count(0)=120 count(6)=120");
        c.answers("post(0,0,1) post(13,0,1) post(25,0,1) post(38,0,1) post(50,0,1) post(63,0,1) hour() assign(0,0) assign(1,1)"
                + " assign(2,2) assign(3,3) assign(4,4) assign(5,5) goOut(0) goOut(1) goOut(2) goOut(3) goOut(4) goOut(5)"
                + " count(9)=6 count(3)=6 take(0) take(1) count(16)=2 count(17)=5 80*append(49) count(18)=80");
        c.answers("500*hour() count(7)=500");
        c.invalid("count(-1)", "count(19)", "count(min)", "count(max)");
    }

    @Says(under = "Promise 15: count", sentence = "Returns the number; INVALID_ARGUMENT if what is out of range.")
    static void countReturns(Check c) {
        c.changesNothing(BUSY, "count(0)", 2);
        c.changesNothing(BUSY, "count(18)", 4);
        c.refused(BUSY, "count(-1)", -1);
        c.refused(BUSY, "count(19)", -1);
    }

    @Says(under = "Promise 16: letter", sentence = "- `letter`: a letter")
    static void letterLetter(Check c) {
        c.answers("letter(0,0)=-1 post(7,0,1) letter(0,0)=7 letter(1,0)=-1 post(8,0,1) letter(1,0)=8 letter(2,0)=-1 undo()"
                + " letter(1,0)=-1");
        c.answers("6*post(9,0,20) letter(119,0)=9 letter(120,0)=-1");
        c.invalid("letter(-1,0)", "letter(12,0)", "letter(120,0)", "letter(min,0)", "letter(max,0)");
        c.refused(BUSY + "restore(0)", "letter(10,0)", -1);
    }

    @Says(under = "Promise 16: letter", sentence = "- `what`: 0 its code, 1 its class, 2 its place, 3 the walk in whose frame it is"
            + " (NONE if it is in none), 4 the carrier in whose hand it is (NONE likewise), 5 its misroutes, 6 the hour in which it"
            + " came, 7 the hour in which it was delivered or sent back (NONE if it was not), 8 the walk to which it belongs")
    static void letterWhat(Check c) {
        int[][] due = {{10, 60, 1, 0, -9, -9, 0, 4, -9, 4}, {9, 30, 0, 1, 2, -9, 0, 3, -9, 2}, {2, 1, 0, 2, -9, -9, 0, 3, -9, 0},
            {6, 2, 1, 3, -9, 0, 0, 3, -9, 0}, {1, 1, 0, 4, -9, -9, 0, 3, 4, 0}, {0, 5, 0, 5, -9, -9, 3, 0, 3, 5}};
        for (int[] letter : due) {
            for (int what = 0; what <= 8; what++) {
                c.answers(BUSY + "letter(" + letter[0] + "," + what + ")=" + letter[what + 1]);
            }
        }
        // The walk 0 and the carrier 0, the walk 7 and the carrier 5, and the hour 0.
        c.answers("post(0,0,1) post(99,0,1) hour() letter(0,3)=0 letter(1,3)=7 assign(0,0) assign(7,5) goOut(0) goOut(5)"
                + " letter(0,4)=0 letter(1,4)=5 letter(0,6)=0 letter(0,3)=-9");
        c.invalid("letter(0,-1)", "letter(0,9)", "letter(0,min)", "letter(0,max)");
    }

    @Says(under = "Promise 16: letter", sentence = "Returns the value; INVALID_ARGUMENT if there is no such letter or what is out of"
            + " range.")
    static void letterReturns(Check c) {
        c.changesNothing(BUSY, "letter(11,8)", 4);
        c.changesNothing(BUSY, "letter(0,0)", 5);
        c.refused(BUSY, "letter(12,8)", -1);
        c.refused(BUSY, "letter(11,9)", -1);
        c.refused(BUSY, "letter(12,9)", -1);
        c.refused(BUSY, "letter(-1,-1)", -1);
        c.refused("", "letter(0,0)", -1);
    }

    @Says(under = "Promise 17: frame", sentence = "- `walk`: 0 to 7")
    static void frameWalk(Check c) {
        c.answers("set(0,3) set(7,4) frame(0,0)=3 frame(7,0)=4 frame(1,0)=6");
        c.invalid("frame(-1,0)", "frame(8,0)", "frame(min,0)", "frame(max,0)");
    }

    @Says(under = "Promise 17: frame", sentence = "- `what`: 0 its holes, 1 the letters in it, 2 its free holes, 3 the letters of the"
            + " first class in it, 4 the carrier of the walk (NONE if it has none)")
    static void frameWhat(Check c) {
        c.answers(BUSY + "frame(0,0)=5 frame(0,1)=0 frame(0,2)=5 frame(0,3)=0 frame(0,4)=0 frame(2,0)=6 frame(2,1)=1 frame(2,2)=5"
                + " frame(2,3)=0 frame(2,4)=-9 frame(6,4)=2 frame(7,4)=1");
        c.answers("post(99,1,2) post(99,0,1) hour() frame(7,1)=3 frame(7,2)=3 frame(7,3)=2 set(7,3) frame(7,2)=0 set(7,2)"
                + " frame(7,2)=0 frame(7,1)=3 assign(7,5) frame(7,4)=5");
        c.answers("set(0,20) set(9,40) post(0,1,20) hour() frame(0,0)=20 frame(0,1)=20 frame(0,2)=0 frame(0,3)=20");
        c.invalid("frame(0,-1)", "frame(0,5)", "frame(0,min)", "frame(0,max)");
    }

    @Says(under = "Promise 17: frame", sentence = "Returns the value; INVALID_ARGUMENT if an argument is out of range.")
    static void frameReturns(Check c) {
        c.changesNothing(BUSY, "frame(0,0)", 5);
        c.changesNothing(BUSY, "frame(7,4)", 1);
        c.invalid("frame(-1,-1)", "frame(8,5)", "frame(7,5)", "frame(8,4)");
    }

    @Says(under = "Promise 18: carrier", sentence = "- `carrier`: 0 to 5")
    static void carrierCarrier(Check c) {
        c.answers("assign(3,0) assign(4,5) carrier(0,0)=3 carrier(5,0)=4");
        c.invalid("carrier(-1,0)", "carrier(6,0)", "carrier(min,0)", "carrier(max,0)");
    }

    @Says(under = "Promise 18: carrier", sentence = "- `what`: 0 its walk (NONE if it has none), 1 1 if it is out and 0 if it is in,"
            + " 2 the letters in its hand, 3 the letters that it has delivered so far")
    static void carrierWhat(Check c) {
        c.answers(BUSY + "carrier(0,0)=0 carrier(0,1)=1 carrier(0,2)=3 carrier(0,3)=2 carrier(1,0)=7 carrier(1,1)=0"
                + " carrier(1,2)=0 carrier(1,3)=0 carrier(5,0)=-9 carrier(5,1)=0 carrier(5,2)=0 carrier(5,3)=0 comeBack(0)=3"
                + " carrier(0,1)=0 carrier(0,2)=0 carrier(0,3)=5 assign(0,-1) carrier(0,0)=-9 carrier(0,3)=5");
        c.invalid("carrier(0,-1)", "carrier(0,4)", "carrier(0,min)", "carrier(0,max)");
    }

    @Says(under = "Promise 18: carrier", sentence = "Returns the value; INVALID_ARGUMENT if an argument is out of range.")
    static void carrierReturns(Check c) {
        c.changesNothing(BUSY, "carrier(0,3)", 2);
        c.changesNothing(BUSY, "carrier(5,0)", -9);
        c.invalid("carrier(-1,-1)", "carrier(6,4)", "carrier(5,4)", "carrier(6,3)");
    }

    @Says(under = "Promise 19: rounds", sentence = "Returns how many rounds a carrier has made on a walk.")
    static void rounds(Check c) {
        c.answers(BUSY + "rounds(0,0)=2 rounds(1,7)=1 rounds(2,6)=1 rounds(0,7)=0 rounds(1,0)=0 comeBack(0) rounds(0,0)=3");
    }

    @Says(under = "Promise 19: rounds", sentence = "- `carrier`: 0 to 5")
    static void roundsCarrier(Check c) {
        c.answers("rounds(0,0)=0 rounds(5,0)=0 post(0,0,1) hour() assign(0,5) goOut(5) comeBack(5) rounds(5,0)=1 rounds(4,0)=0");
        c.invalid("rounds(-1,0)", "rounds(6,0)", "rounds(min,0)", "rounds(max,0)");
    }

    @Says(under = "Promise 19: rounds", sentence = "- `walk`: 0 to 7")
    static void roundsWalk(Check c) {
        c.answers("rounds(0,0)=0 rounds(0,7)=0 post(99,0,1) hour() assign(7,0) goOut(0) comeBack(0) rounds(0,7)=1 rounds(0,6)=0"
                + " rounds(1,0)=0");
        c.invalid("rounds(0,-1)", "rounds(0,8)", "rounds(5,8)", "rounds(1,-1)", "rounds(0,min)", "rounds(0,max)");
    }

    @Says(under = "Promise 19: rounds", sentence = "Returns the number; INVALID_ARGUMENT if an argument is out of range.")
    static void roundsReturns(Check c) {
        c.changesNothing(BUSY, "rounds(0,0)", 2);
        c.changesNothing(BUSY, "rounds(5,7)", 0);
        c.invalid("rounds(-1,-1)", "rounds(6,8)");
    }

    @Says(under = "Promise 20: stretch", sentence = "Tells about the stretch in which a code is.")
    static void stretch(Check c) {
        c.answers("stretch(13,0)=1 stretch(13,1)=13 stretch(13,2)=24 stretch(24,1)=13 stretch(24,2)=24 stretch(18,1)=13"
                + " setRange(18,18,0) stretch(18,1)=18 stretch(18,2)=18 stretch(17,2)=17 stretch(19,1)=19");
    }

    @Says(under = "Promise 20: stretch", sentence = "- `code`: 0 to 99")
    static void stretchCode(Check c) {
        c.answers("stretch(0,0)=0 stretch(0,1)=0 stretch(0,2)=12 stretch(99,0)=7 stretch(99,1)=88 stretch(99,2)=99");
        c.invalid("stretch(-1,0)", "stretch(100,0)", "stretch(-1,1)", "stretch(100,2)", "stretch(min,0)", "stretch(max,0)");
    }

    @Says(under = "Promise 20: stretch", sentence = "- `what`: 0 its walk, 1 its first code, 2 its last code")
    static void stretchWhat(Check c) {
        c.answers("setRange(0,99,5) stretch(50,0)=5 stretch(50,1)=0 stretch(50,2)=99 setRange(0,0,2) stretch(50,1)=1"
                + " setRange(99,99,2) stretch(50,2)=98 stretch(99,1)=99 stretch(99,2)=99 stretch(0,1)=0 stretch(0,2)=0");
        c.invalid("stretch(0,-1)", "stretch(0,3)", "stretch(99,3)", "stretch(0,min)", "stretch(0,max)");
    }

    @Says(under = "Promise 20: stretch", sentence = "Returns the value; INVALID_ARGUMENT if an argument is out of range.")
    static void stretchReturns(Check c) {
        c.changesNothing(BUSY, "stretch(5,0)", 5);
        c.changesNothing(BUSY, "stretch(5,2)", 5);
        c.invalid("stretch(-1,-1)", "stretch(100,3)");
    }

    @Says(under = "Promise 21: inBag", sentence = "Returns a letter of the bag by its order.")
    static void inBag(Check c) {
        c.answers("post(9,0,1) post(3,1,1) post(0,0,1) inBag(0)=1 inBag(1)=0 inBag(2)=2 set(9,2) hour() inBag(0)=2 inBag(1)=-9");
        c.answers(BUSY + "inBag(0)=10 inBag(1)=11 inBag(2)=-9 setRange(2,2,1) comeBack(0)=0 inBag(0)=6 inBag(1)=7 inBag(2)=8"
                + " inBag(3)=10 inBag(4)=11");
    }

    @Says(under = "Promise 21: inBag", sentence = "- `place`: 0 or more")
    static void inBagPlace(Check c) {
        c.answers("inBag(0)=-9 post(0,0,1) inBag(0)=0 inBag(1)=-9 inBag(120)=-9 inBag(max)=-9");
        c.invalid("inBag(-1)", "inBag(-9)", "inBag(min)");
    }

    @Says(under = "Promise 21: inBag", sentence = "Returns the letter; INVALID_ARGUMENT if place is negative; NONE if not so many"
            + " letters are in the bag.")
    static void inBagReturns(Check c) {
        c.answers("6*post(0,0,20) inBag(0)=0 inBag(119)=119 inBag(120)=-9");
        c.changesNothing(BUSY, "inBag(0)", 10);
        c.changesNothing(BUSY, "inBag(1)", 11);
        c.changesNothing(BUSY, "inBag(2)", -9);
        c.changesNothing("", "inBag(0)", -9);
        c.refused("", "inBag(-1)", -1);
        // Letters that are elsewhere are not in the bag.
        c.answers("set(0,1) post(0,0,2) hour()=1 inBag(0)=-9");
    }

    @Says(under = "Promise 22: inFrame", sentence = "Returns a letter of a frame, by street codes from the smallest on, of the same"
            + " code by their numbers.")
    static void inFrame(Check c) {
        c.answers("post(9,1,2) post(3,0,1) post(12,0,1) post(0,0,1) post(3,1,1) hour() inFrame(0,0)=4 inFrame(0,1)=2"
                + " inFrame(0,2)=5 inFrame(0,3)=0 inFrame(0,4)=1 inFrame(0,5)=3 inFrame(0,6)=-9");
        // Misroutes and class are of no matter here, nor the walk to which a letter belongs.
        c.answers("post(0,0,1) post(0,1,1) hour() setRange(0,0,7) inFrame(0,0)=0 inFrame(0,1)=1 inFrame(7,0)=-9");
    }

    @Says(under = "Promise 22: inFrame", sentence = "- `walk`: 0 to 7")
    static void inFrameWalk(Check c) {
        c.answers("post(0,0,1) post(99,0,1) hour() inFrame(0,0)=0 inFrame(7,0)=1 inFrame(1,0)=-9");
        c.invalid("inFrame(-1,0)", "inFrame(8,0)", "inFrame(min,0)", "inFrame(max,0)");
    }

    @Says(under = "Promise 22: inFrame", sentence = "- `place`: 0 or more")
    static void inFramePlace(Check c) {
        c.answers("inFrame(0,0)=-9 post(0,0,1) hour() inFrame(0,0)=0 inFrame(0,1)=-9 inFrame(0,120)=-9 inFrame(0,max)=-9");
        c.invalid("inFrame(0,-1)", "inFrame(7,-1)", "inFrame(0,-9)", "inFrame(0,min)");
    }

    @Says(under = "Promise 22: inFrame", sentence = "Returns the letter; INVALID_ARGUMENT if walk is out of range or place is"
            + " negative; NONE if not so many letters are in the frame.")
    static void inFrameReturns(Check c) {
        c.answers("set(0,20) set(9,40) post(0,0,20) hour() inFrame(0,0)=0 inFrame(0,19)=19 inFrame(0,20)=-9 set(0,1)"
                + " inFrame(0,19)=19 inFrame(0,20)=-9");
        c.changesNothing(BUSY, "inFrame(2,0)", 9);
        c.changesNothing(BUSY, "inFrame(2,1)", -9);
        c.changesNothing(BUSY, "inFrame(0,0)", -9);
        c.invalid("inFrame(8,-1)", "inFrame(-1,-1)", "inFrame(8,max)");
    }
}
