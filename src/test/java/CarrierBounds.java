/** Tests of the sentences of the promises 6 to 8. */
final class CarrierBounds {
    private static final String FRAMED = "post(5,0,3) hour() assign(0,2) ";
    private static final String OUT = FRAMED + "goOut(2) ";

    private CarrierBounds() {
    }

    @Says(under = "Promise 6: assign", sentence = "Gives a walk a carrier, or takes the one that it has away.")
    static void assign(Check c) {
        c.answers("assign(3,5)=-9 frame(3,4)=5 carrier(5,0)=3 assign(3,0)=5 frame(3,4)=0 carrier(5,0)=-9 carrier(0,0)=3"
                + " assign(3,-1)=0 frame(3,4)=-9 carrier(0,0)=-9");
    }

    @Says(under = "Promise 6: assign", sentence = "This is an action.")
    static void assignIsAction(Check c) {
        c.action("", "assign(0,0)");
        c.action("", "assign(7,-1)");
        c.action("assign(7,5)", "assign(7,5)");
        c.action("assign(7,5)", "assign(7,-1)");
        c.action(Check.BUSY, "assign(7,3)");
    }

    @Says(under = "Promise 6: assign", sentence = "- `walk`: 0 to 7")
    static void assignWalk(Check c) {
        c.answers("assign(0,0)=-9 assign(7,1)=-9 carrier(0,0)=0 carrier(1,0)=7");
        c.invalid("assign(-1,5)", "assign(8,5)", "assign(-1,-1)", "assign(8,-1)", "assign(min,5)", "assign(max,5)");
    }

    @Says(under = "Promise 6: assign", sentence = "- `carrier`: 0 to 5, or -1 for none")
    static void assignCarrier(Check c) {
        c.answers("assign(0,0)=-9 assign(1,5)=-9 frame(0,4)=0 frame(1,4)=5 assign(0,-1)=0 assign(1,-1)=5 frame(0,4)=-9"
                + " frame(1,4)=-9");
        c.invalid("assign(3,-2)", "assign(3,6)", "assign(3,-9)", "assign(3,min)", "assign(3,max)");
    }

    @Says(under = "Promise 6: assign", sentence = "Returns the previous carrier of the walk, or NONE; INVALID_ARGUMENT if an"
            + " argument is out of range; ILLEGAL_STATE if the carrier has another walk, or the one that the walk has is out.")
    static void assignReturns(Check c) {
        c.answers("assign(3,0)=-9 assign(3,1)=0 assign(3,1)=1 assign(3,-1)=1 assign(3,-1)=-9 assign(3,0)=-9");
        // The carrier has another walk, in which it is in or out.
        c.refused("assign(0,0)", "assign(1,0)", -2);
        c.refused("assign(7,5)", "assign(0,5)", -2);
        c.refused("assign(0,0) assign(1,1)", "assign(1,0)", -2);
        c.refused(OUT, "assign(1,2)", -2);
        // The one that the walk has is out: for another, for itself and for none.
        c.refused(OUT, "assign(0,3)", -2);
        c.refused(OUT, "assign(0,2)", -2);
        c.refused(OUT, "assign(0,-1)", -2);
        c.refused("post(0,0,1) hour() assign(0,0) goOut(0)", "assign(0,1)", -2);
        c.refused("post(99,0,1) hour() assign(7,5) goOut(5)", "assign(7,-1)", -2);
        // Both.
        c.refused(OUT + "assign(1,3)", "assign(0,3)", -2);
        // An argument is out of range too.
        c.refused(OUT, "assign(0,6)", -1);
        c.refused(OUT, "assign(0,-2)", -1);
        c.refused(OUT, "assign(8,2)", -1);
        c.refused(OUT, "assign(-1,2)", -1);
        // It is in again, and another walk's carrier who is out stands in no way.
        c.answers(OUT + "comeBack(2)=2 assign(0,3)=2 assign(1,2)=-9");
        c.answers(OUT + "assign(1,3)=-9 assign(1,-1)=3 assign(1,4)=-9");
    }

    @Says(under = "Promise 7: goOut", sentence = "Lets a carrier go out.")
    static void goOut(Check c) {
        c.answers(FRAMED + "goOut(2)=3 carrier(2,1)=1 carrier(2,2)=3 count(3)=3 count(9)=1 frame(0,1)=0 frame(0,2)=6"
                + " letter(0,2)=3 letter(0,4)=2 letter(0,3)=-9 rounds(2,0)=0 count(12)=0");
    }

    @Says(under = "Promise 7: goOut", sentence = "This is an action.")
    static void goOutIsAction(Check c) {
        c.action(FRAMED, "goOut(2)");
        c.action(Check.BUSY + " comeBack(0) hour()", "goOut(0)");
    }

    @Says(under = "Promise 7: goOut", sentence = "- `carrier`: 0 to 5")
    static void goOutCarrier(Check c) {
        c.answers("post(0,0,1) post(99,0,1) hour() assign(0,0) assign(7,5) goOut(0)=1 goOut(5)=1 letter(0,4)=0 letter(1,4)=5");
        c.invalid("goOut(-1)", "goOut(6)", "goOut(min)", "goOut(max)");
    }

    @Says(under = "Promise 7: goOut", sentence = "Returns the number of letters that it takes; INVALID_ARGUMENT if carrier is out"
            + " of range; ILLEGAL_STATE if it has no walk, it is out, or no letter is in the frame.")
    static void goOutReturns(Check c) {
        c.answers("post(5,0,1) hour() assign(0,2) goOut(2)=1");
        c.answers("set(0,20) post(5,0,10) hour() assign(0,2) goOut(2)=8 frame(0,1)=2");
        c.refused("post(5,0,3) hour()", "goOut(2)", -2);
        c.refused(FRAMED + "assign(0,-1)", "goOut(2)", -2);
        c.refused("set(10,1) " + OUT, "goOut(2)", -2);
        c.refused(OUT, "goOut(2)", -2);
        c.refused("assign(0,2)", "goOut(2)", -2);
        // Letters that are in the bag, in the overflow or in another frame are of no use.
        c.refused("post(5,0,3) assign(0,2)", "goOut(2)", -2);
        c.refused("set(0,1) post(5,0,2) hour() assign(0,2) goOut(2) comeBack(2)", "goOut(2)", -2);
        c.refused(FRAMED + "assign(1,3)", "goOut(3)", -2);
        // Out of range, as the first one.
        c.refused(OUT, "goOut(6)", -1);
        c.refused("", "goOut(-1)", -1);
    }

    @Says(under = "Promise 8: comeBack", sentence = "Lets a carrier come back.")
    static void comeBack(Check c) {
        c.answers(OUT + "hour() comeBack(2)=2 carrier(2,1)=0 carrier(2,2)=0 carrier(2,3)=2 carrier(2,0)=0 count(3)=0 count(9)=0"
                + " count(4)=2 letter(0,2)=4 letter(0,7)=2 letter(1,7)=2 letter(2,2)=1 letter(2,7)=-9 rounds(2,0)=1");
    }

    @Says(under = "Promise 8: comeBack", sentence = "This is an action.")
    static void comeBackIsAction(Check c) {
        c.action(OUT, "comeBack(2)");
        c.action(OUT + "setRange(5,5,1)", "comeBack(2)");
        c.action(Check.BUSY, "comeBack(0)");
    }

    @Says(under = "Promise 8: comeBack", sentence = "- `carrier`: 0 to 5")
    static void comeBackCarrier(Check c) {
        c.answers("post(0,0,1) post(99,0,1) hour() assign(0,0) assign(7,5) goOut(0) goOut(5) comeBack(0)=1 carrier(5,1)=1"
                + " comeBack(5)=1");
        c.invalid("comeBack(-1)", "comeBack(6)", "comeBack(min)", "comeBack(max)");
    }

    @Says(under = "Promise 8: comeBack", sentence = "Returns the number of letters that are delivered; INVALID_ARGUMENT if carrier"
            + " is out of range; ILLEGAL_STATE if it is in.")
    static void comeBackReturns(Check c) {
        c.answers(OUT + "comeBack(2)=2 goOut(2)=1 comeBack(2)=1");
        c.answers(OUT + "setRange(5,5,1) comeBack(2)=0");
        c.refused("", "comeBack(0)", -2);
        c.refused(FRAMED, "comeBack(2)", -2);
        c.refused(OUT, "comeBack(1)", -2);
        c.refused(OUT + "comeBack(2)", "comeBack(2)", -2);
        c.refused(OUT + "undo()", "comeBack(2)", -2);
        c.refused(OUT, "comeBack(6)", -1);
        c.refused(OUT, "comeBack(-1)", -1);
    }
}
