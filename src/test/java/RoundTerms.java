/** Tests of what the document says of carriers and rounds. */
final class RoundTerms {
    /** Twenty letters in the frame 0, whose carrier is 0, who takes four at once. */
    private static final String ROUNDS_OF_FOUR = "set(0,20) set(9,40) set(10,4) post(5,0,20) hour() assign(0,0)";

    private RoundTerms() {
    }

    @Says(under = "Carriers and rounds", promises = {6, 7, 8, 18, 19, 26}, sentence = "There are 6 carriers, 0 to 5.")
    static void carriers(Check c) {
        c.answers("assign(0,0)=-9 assign(1,1)=-9 assign(2,2)=-9 assign(3,3)=-9 assign(4,4)=-9 assign(7,5)=-9 carrier(0,0)=0"
                + " carrier(5,0)=7 frame(5,4)=-9 frame(6,4)=-9 frame(7,4)=5 rounds(5,7)=0 post(99,0,1) hour() goOut(5)=1"
                + " wouldDeliver(5)=1 comeBack(5)=1");
        c.answers("post(0,0,1) hour() assign(0,0)=-9 goOut(0)=1 wouldDeliver(0)=1 comeBack(0)=1 rounds(0,0)=1");
        c.invalid("assign(0,6)", "assign(0,-2)", "goOut(-1)", "goOut(6)", "comeBack(-1)", "comeBack(6)", "carrier(-1,0)",
                "carrier(6,0)", "rounds(-1,0)", "rounds(6,0)", "wouldDeliver(-1)", "wouldDeliver(6)");
    }

    @Says(under = "Carriers and rounds", promises = {6, 17, 18},
            sentence = "A walk can have a carrier, and a carrier can have one walk.")
    static void oneWalk(Check c) {
        c.answers("frame(0,4)=-9 carrier(0,0)=-9 assign(0,0)=-9 frame(0,4)=0 carrier(0,0)=0 assign(0,1)=0 carrier(0,0)=-9"
                + " carrier(1,0)=0 frame(0,4)=1 assign(1,0)=-9 carrier(0,0)=1 assign(0,-1)=1 frame(0,4)=-9 carrier(1,0)=-9");
        c.refused("assign(0,0)", "assign(1,0)", -2);
        c.refused("assign(7,5)", "assign(0,5)", -2);
        // Its walk is the walk that it has, so it has no other.
        c.answers("assign(0,0)=-9 assign(0,0)=0 frame(0,4)=0 carrier(0,0)=0");
    }

    @Says(under = "Carriers and rounds", promises = {8, 15, 19},
            sentence = "A carrier has, for each walk, a number of rounds that it has made there.")
    static void roundsOfEachWalk(Check c) {
        c.answers("rounds(0,0)=0 rounds(5,7)=0 post(0,0,1) post(99,0,1) hour() assign(0,0) goOut(0) rounds(0,0)=0 comeBack(0)"
                + " assign(0,-1) assign(7,0) goOut(0) comeBack(0) rounds(0,0)=1 rounds(0,7)=1 rounds(0,1)=0 rounds(1,0)=0"
                + " rounds(5,7)=0 count(12)=2");
    }

    @Says(under = "Carriers and rounds", promises = {8, 26}, sentence = "It knows a walk if this is 2 or more.")
    static void knows(Check c) {
        c.answers(ROUNDS_OF_FOUR + " goOut(0)=4 rounds(0,0)=0 comeBack(0)=2 goOut(0)=4 rounds(0,0)=1 wouldDeliver(0)=2"
                + " comeBack(0)=2 goOut(0)=4 rounds(0,0)=2 wouldDeliver(0)=4 comeBack(0)=4 goOut(0)=4 rounds(0,0)=3"
                + " comeBack(0)=4");
        // Two rounds on another walk, or of another carrier, are none here.
        c.answers(ROUNDS_OF_FOUR + " goOut(0) comeBack(0) goOut(0) comeBack(0) assign(0,1) goOut(1)=4 comeBack(1)=2"
                + " post(20,0,4) hour() assign(1,0) goOut(0)=4 rounds(0,0)=2 comeBack(0)=2");
    }

    @Says(under = "Carriers and rounds", promises = {7, 8, 18, 26}, sentence = "A carrier is in, or out on a round.")
    static void inOrOut(Check c) {
        c.answers("carrier(0,1)=0 count(9)=0 " + ROUNDS_OF_FOUR + " carrier(0,1)=0 goOut(0)=4 carrier(0,1)=1 count(9)=1"
                + " carrier(1,1)=0 comeBack(0)=2 carrier(0,1)=0 count(9)=0");
        c.refused(ROUNDS_OF_FOUR + " goOut(0)", "goOut(0)", -2);
        c.refused(ROUNDS_OF_FOUR, "comeBack(0)", -2);
        c.refused(ROUNDS_OF_FOUR + " goOut(0) comeBack(0)", "comeBack(0)", -2);
    }

    @Says(under = "Carriers and rounds", promises = {5, 7, 26},
            sentence = "When a carrier goes out, it takes letters of the frame of its walk in hand, by street codes from the"
            + " smallest on, of the same code by their numbers, at most as many as the load (1 to 30; at first 8).")
    static void takesInHand(Check c) {
        c.answers("post(9,1,2) post(3,0,2) post(12,1,1) post(0,0,1) hour() assign(0,0) set(10,4) goOut(0)=4 letter(5,4)=0"
                + " letter(2,4)=0 letter(3,4)=0 letter(0,4)=0 letter(1,3)=0 letter(4,3)=0 carrier(0,2)=4 frame(0,1)=2");
        // The load: at first, the least, the greatest, as many letters as it, one more and one fewer.
        c.answers("count(15)=8 set(0,20) post(5,0,9) hour() assign(0,0) goOut(0)=8 inFrame(0,0)=8 inFrame(0,1)=-9");
        c.answers("set(10,1)=8 post(5,0,2) hour() assign(0,0) goOut(0)=1 letter(0,4)=0 letter(1,3)=0");
        c.answers("set(10,30)=8 set(0,20) set(9,40) post(5,0,20) hour() assign(0,0) goOut(0)=20 frame(0,1)=0");
        c.answers("set(10,3) post(5,0,3) hour() assign(0,0) goOut(0)=3 frame(0,1)=0");
        c.answers("set(10,3) post(5,0,4) hour() assign(0,0) goOut(0)=3 frame(0,1)=1");
        c.answers("set(10,3) post(5,0,2) hour() assign(0,0) goOut(0)=2 frame(0,1)=0");
        c.invalid("set(10,0)", "set(10,31)");
        // The frame of its walk, though another is nearer to the smallest code.
        c.answers("post(0,0,1) post(20,0,1) hour() assign(1,0) goOut(0)=1 letter(1,4)=0 letter(0,3)=0");
        // Those that do not belong there are taken too.
        c.answers("post(0,0,2) hour() setRange(0,0,5) assign(0,0) goOut(0)=2");
    }

    @Says(under = "Carriers and rounds", promises = {8},
            sentence = "When it comes back, the letters in its hand leave it in the order in which they were taken.")
    static void leaveInOrder(Check c) {
        // Taken are 1, 2, 3 and 0: the first two are delivered, the third finds the one hole.
        c.answers("post(9,0,1) post(3,0,3) hour() assign(0,0) goOut(0)=4 set(0,1) comeBack(0)=2 letter(1,2)=4 letter(2,2)=4"
                + " letter(3,3)=0 letter(0,2)=2 carrier(0,2)=0");
    }

    @Says(under = "Carriers and rounds", promises = {8, 15, 16},
            sentence = "One that does not belong to its walk is a misroute: its misroutes become more by 1; it goes to the bag,"
            + " or, if they are 3 then, it is sent back.")
    static void misroutes(Check c) {
        c.answers("post(5,0,1) hour() setRange(5,5,7) assign(0,0) goOut(0) comeBack(0)=0 letter(0,5)=1 letter(0,2)=0"
                + " hour() setRange(5,5,6) assign(7,1) goOut(1) comeBack(1)=0 letter(0,5)=2 letter(0,2)=0 count(5)=0 inBag(0)=0"
                + " hour() setRange(5,5,5) assign(6,2) goOut(2) comeBack(2)=0 letter(0,5)=3 letter(0,2)=5 count(5)=1 count(0)=0"
                + " inBag(0)=-9 letter(0,7)=3 letter(0,4)=-9 count(11)=3 hour()=0 letter(0,2)=5");
        // It belongs to the walk again when it comes back.
        c.answers("post(5,0,1) hour() assign(0,0) setRange(5,5,7) goOut(0) setRange(5,5,0) comeBack(0)=1 letter(0,5)=0");
        // It goes to the bag, not to a frame, though holes are free.
        c.answers("post(5,1,2) hour() assign(0,0) goOut(0) setRange(5,5,1) comeBack(0)=0 count(0)=2 count(1)=0 count(11)=2");
    }

    @Says(under = "Carriers and rounds", promises = {8, 26},
            sentence = "Of those that belong there, all are delivered if the carrier knows the walk, otherwise the first half of"
            + " them, rounded up; the others go back into the frame if a hole there is free, to the overflow otherwise.")
    static void delivered(Check c) {
        c.answers("post(5,0,1) hour() assign(0,0) goOut(0)=1 comeBack(0)=1 letter(0,2)=4");
        c.answers("post(5,0,2) hour() assign(0,0) goOut(0)=2 comeBack(0)=1 letter(0,2)=4 letter(1,3)=0");
        c.answers("post(5,0,3) hour() assign(0,0) goOut(0)=3 comeBack(0)=2 letter(1,2)=4 letter(2,3)=0");
        c.answers("set(0,20) set(9,40) set(10,30) post(5,0,20) hour() assign(0,0) goOut(0)=20 comeBack(0)=10 letter(9,2)=4"
                + " letter(10,3)=0 frame(0,1)=10");
        // None belongs there.
        c.answers("post(5,0,2) hour() assign(0,0) goOut(0)=2 setRange(5,5,1) comeBack(0)=0 count(4)=0 rounds(0,0)=1");
        // The half of those that belong there, not of those in hand.
        c.answers("post(4,0,3) post(5,0,3) hour() assign(0,0) goOut(0)=6 setRange(4,4,1) comeBack(0)=2 letter(3,2)=4"
                + " letter(4,2)=4 letter(5,3)=0 count(0)=3");
        // All, by one who knows the walk, but misroutes.
        c.answers(ROUNDS_OF_FOUR + " goOut(0) comeBack(0) goOut(0) comeBack(0) goOut(0)=4 comeBack(0)=4 setRange(5,5,1)"
                + " goOut(0)=4 comeBack(0)=0 count(0)=4");
        // No hole, one hole and as many holes as are needed.
        c.answers("post(5,0,4) hour() assign(0,0) goOut(0)=4 set(0,1) post(0,0,1) hour()=0 comeBack(0)=2 letter(2,2)=2"
                + " letter(3,2)=2 frame(0,1)=1");
        c.answers("post(5,0,4) hour() assign(0,0) goOut(0)=4 set(0,2) post(0,0,1) hour()=0 comeBack(0)=2 letter(2,3)=0"
                + " letter(3,2)=2");
        c.answers("post(5,0,4) hour() assign(0,0) goOut(0)=4 set(0,3) post(0,0,1) hour()=0 comeBack(0)=2 letter(2,3)=0"
                + " letter(3,3)=0 frame(0,2)=0 count(2)=0");
        // More letters are in the frame than it has holes.
        c.answers("post(5,0,6) hour() assign(0,0) set(10,2) goOut(0)=2 set(0,1) comeBack(0)=1 letter(1,2)=2 frame(0,1)=4");
        // The rule is for the sorting alone.
        c.answers("set(8,2) post(5,1,2) hour() assign(0,0) goOut(0)=2 set(0,1) post(0,0,1) hour()=0 comeBack(0)=1"
                + " letter(1,2)=2 letter(2,3)=0");
        c.answers("set(8,1) post(5,1,2) hour() assign(0,0) goOut(0)=2 set(0,1) post(0,0,1) hour()=0 comeBack(0)=1"
                + " letter(1,2)=2 letter(2,3)=0");
    }

    @Says(under = "Carriers and rounds", promises = {8, 15, 19}, sentence = "Then its rounds on this walk are more by 1.")
    static void roundsBecomeMore(Check c) {
        // The round itself does not count for what it delivers.
        c.answers(ROUNDS_OF_FOUR + " goOut(0) comeBack(0)=2 rounds(0,0)=1 goOut(0) comeBack(0)=2 rounds(0,0)=2 count(12)=2"
                + " rounds(0,1)=0");
        c.answers("post(5,0,1) hour() assign(0,0) goOut(0) setRange(5,5,1) comeBack(0)=0 rounds(0,0)=1 rounds(0,1)=0"
                + " count(12)=1 carrier(0,3)=0");
    }
}
