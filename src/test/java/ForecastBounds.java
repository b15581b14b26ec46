/** Tests of the sentences of the promises 23 to 26. */
final class ForecastBounds {
    private static final String BUSY = Check.BUSY + " ";
    /** One letter an hour, and holes for sixty of three walks, which are in the bag. */
    private static final String SIXTY = "set(9,1) set(0,20) set(1,20) set(2,20) post(0,0,20) post(13,0,20) post(25,0,20) ";
    private static final String FRAMED = "post(5,0,3) hour() assign(0,2) ";

    private ForecastBounds() {
    }

    @Says(under = "Promise 23: clearIn", sentence = "Tells in how many hours the bag and the overflow are empty, if only hours pass"
            + " (also beyond the hour 500).")
    static void clearIn(Check c) {
        c.answers("post(0,0,10) clearIn()=-9 set(0,10) clearIn()=1 post(13,0,1) clearIn()=2 set(9,11) clearIn()=1 set(9,1)"
                + " clearIn()=11 hour() clearIn()=10");
        // An overflow without a bag, and both.
        c.answers("set(0,1) post(0,0,2) hour()=1 count(0)=0 clearIn()=-9 set(0,2) clearIn()=1 post(0,0,1) set(0,3) clearIn()=1");
        // By the rule that is set: a displaced letter finds its own walk an hour later.
        c.answers("set(8,1) set(0,1) post(0,0,1) hour() setRange(0,0,1) post(5,1,1) clearIn()=2 set(8,0) clearIn()=-9 set(8,2)"
                + " clearIn()=1");
        // A carrier that is out does not come back.
        c.answers("set(0,1) post(5,0,1) hour() assign(0,0) goOut(0) post(5,0,1) clearIn()=1 post(5,0,1) clearIn()=-9");
        c.answers("499*hour() set(9,1) post(0,0,3) clearIn()=3 hour() clearIn()=2 hour()=-3 clearIn()=2 count(7)=500");
        c.answers("500*hour() " + SIXTY + "clearIn()=60 post(99,0,1) clearIn()=-9");
        c.changesNothing(BUSY, "clearIn()", 1);
    }

    @Says(under = "Promise 23: clearIn", sentence = "Returns the number of hours, 0 if they are now; NONE if they would not be within"
            + " 60 hours.")
    static void clearInReturns(Check c) {
        c.answers("clearIn()=0 post(0,0,1) clearIn()=1 hour() clearIn()=0 assign(0,0) goOut(0) clearIn()=0 comeBack(0)"
                + " clearIn()=0");
        c.answers(SIXTY + "clearIn()=60 post(99,0,1) clearIn()=-9 hour() clearIn()=60 set(9,2) clearIn()=30");
        c.answers(SIXTY + "hour() clearIn()=59");
        // Never.
        c.answers("set(0,1) post(0,0,2) clearIn()=-9");
        c.answers("set(0,1) set(8,1) post(0,0,1) hour() post(0,1,1) clearIn()=-9");
        c.answers("set(0,1) set(1,1) set(2,1) set(3,1) set(4,1) set(5,1) set(6,1) set(7,1) set(8,2) post(0,0,8) clearIn()=1"
                + " post(0,0,1) clearIn()=-9");
        c.changesNothing(SIXTY + "post(99,0,1)", "clearIn()", -9);
        c.changesNothing("", "clearIn()", 0);
    }

    @Says(under = "Promise 24: wouldOverflow", sentence = "Tells how many letters would be in the overflow behind an hour, by a rule"
            + " (also at the hour 500).")
    static void wouldOverflow(Check c) {
        c.answers("set(0,2) post(0,0,2) hour() post(1,1,1) post(1,0,1) wouldOverflow(0)=2 wouldOverflow(1)=2 wouldOverflow(2)=0"
                + " count(13)=0 count(7)=1 hour()=2");
        c.answers("set(8,1) set(0,1) post(0,0,1) hour() setRange(0,0,1) post(5,1,1) wouldOverflow(1)=1 wouldOverflow(0)=1"
                + " wouldOverflow(2)=0 hour()=1 wouldOverflow(1)=0 wouldOverflow(0)=0");
        c.answers("set(0,1) post(0,0,5) hour()=4 wouldOverflow(0)=4 set(9,3) wouldOverflow(0)=3 set(9,1) wouldOverflow(0)=1");
        c.answers("499*hour() post(0,0,7) wouldOverflow(0)=1 hour()=1 wouldOverflow(0)=1 wouldOverflow(2)=0 hour()=-3 count(7)=500");
        c.changesNothing("500*hour() post(0,0,7)", "wouldOverflow(0)", 1);
    }

    @Says(under = "Promise 24: wouldOverflow", sentence = "- `rule`: 0 to 2")
    static void wouldOverflowRule(Check c) {
        c.answers("post(0,0,7) wouldOverflow(0)=1 wouldOverflow(1)=1 wouldOverflow(2)=0");
        c.invalid("wouldOverflow(-1)", "wouldOverflow(3)", "wouldOverflow(min)", "wouldOverflow(max)");
    }

    @Says(under = "Promise 24: wouldOverflow", sentence = "Returns the number; INVALID_ARGUMENT if rule is out of range.")
    static void wouldOverflowReturns(Check c) {
        c.changesNothing(BUSY, "wouldOverflow(0)", 0);
        c.changesNothing(BUSY + "set(0,1)", "wouldOverflow(0)", 2);
        c.changesNothing(BUSY + "set(0,1)", "wouldOverflow(2)", 0);
        c.refused("500*hour()", "wouldOverflow(3)", -1);
        c.changesNothing("", "wouldOverflow(0)", 0);
    }

    @Says(under = "Promise 25: bestCarrier", sentence = "Finds the carrier without a walk that has made the most rounds on a walk, of"
            + " several the smallest.")
    static void bestCarrier(Check c) {
        c.answers("bestCarrier(0)=0 assign(5,0) bestCarrier(0)=1 assign(6,1) bestCarrier(7)=2");
        // 4 and 5 have made two rounds on the walk 0, 1 has made one, and 3 three on the walk 1.
        String two = "post(0,0,2) hour() assign(0,4) goOut(4) comeBack(4) goOut(4) comeBack(4) assign(0,-1)"
                + " post(0,0,2) hour() assign(0,5) goOut(5) comeBack(5) goOut(5) comeBack(5) assign(0,-1)"
                + " post(0,0,1) hour() assign(0,1) goOut(1) comeBack(1) assign(0,-1)"
                + " post(20,0,4) hour() assign(1,3) goOut(3) comeBack(3) goOut(3) comeBack(3) goOut(3) comeBack(3) assign(1,-1) ";
        c.answers(two + "bestCarrier(0)=4 bestCarrier(1)=3 bestCarrier(2)=0 assign(7,4) bestCarrier(0)=5 assign(0,5)"
                + " bestCarrier(0)=1 assign(6,1) bestCarrier(0)=0 assign(5,0) bestCarrier(0)=2 bestCarrier(1)=3 assign(4,2)"
                + " bestCarrier(0)=3 assign(3,3) bestCarrier(0)=-9 bestCarrier(1)=-9");
        c.changesNothing(two, "bestCarrier(0)", 4);
    }

    @Says(under = "Promise 25: bestCarrier", sentence = "- `walk`: 0 to 7")
    static void bestCarrierWalk(Check c) {
        c.answers("bestCarrier(0)=0 bestCarrier(7)=0 post(99,0,1) hour() assign(7,3) goOut(3) comeBack(3) assign(7,-1)"
                + " bestCarrier(7)=3 bestCarrier(6)=0 bestCarrier(0)=0");
        c.invalid("bestCarrier(-1)", "bestCarrier(8)", "bestCarrier(min)", "bestCarrier(max)");
    }

    @Says(under = "Promise 25: bestCarrier", sentence = "Returns the carrier; INVALID_ARGUMENT if walk is out of range; NONE if each"
            + " carrier has a walk.")
    static void bestCarrierReturns(Check c) {
        String five = "assign(0,0) assign(1,1) assign(2,2) assign(3,3) assign(4,4) ";
        c.changesNothing(five, "bestCarrier(0)", 5);
        c.changesNothing(five + "assign(7,5)", "bestCarrier(0)", -9);
        c.changesNothing(five + "assign(7,5)", "bestCarrier(6)", -9);
        c.refused(five + "assign(7,5)", "bestCarrier(8)", -1);
        c.refused(five + "assign(7,5)", "bestCarrier(-1)", -1);
        c.changesNothing(five + "assign(7,5) assign(0,-1)", "bestCarrier(6)", 0);
    }

    @Says(under = "Promise 26: wouldDeliver", sentence = "Tells how many letters a carrier would deliver, if it went out now (if it is"
            + " in) and came back at once.")
    static void wouldDeliver(Check c) {
        c.answers(FRAMED + "wouldDeliver(2)=2 goOut(2)=3 wouldDeliver(2)=2 comeBack(2)=2 wouldDeliver(2)=1 goOut(2)=1"
                + " comeBack(2)=1");
        // One who is out has only what is in its hand, whatever the load and the frame are now.
        c.answers("set(10,1) " + FRAMED + "goOut(2)=1 set(10,30) wouldDeliver(2)=1 comeBack(2)=1 wouldDeliver(2)=1");
        c.answers("set(10,1) " + FRAMED + "wouldDeliver(2)=1 set(10,2) wouldDeliver(2)=1 set(10,3) wouldDeliver(2)=2");
        // One who knows the walk delivers all, but misroutes.
        c.answers("set(0,20) set(9,40) set(10,4) post(5,0,16) hour() assign(0,0) wouldDeliver(0)=2 goOut(0) comeBack(0)"
                + " wouldDeliver(0)=2 goOut(0) comeBack(0) wouldDeliver(0)=4 setRange(5,5,1) wouldDeliver(0)=0 goOut(0)"
                + " wouldDeliver(0)=0 setRange(5,5,0) wouldDeliver(0)=4");
        c.changesNothing(BUSY, "wouldDeliver(0)", 3);
        c.changesNothing(FRAMED, "wouldDeliver(2)", 2);
    }

    @Says(under = "Promise 26: wouldDeliver", sentence = "- `carrier`: 0 to 5")
    static void wouldDeliverCarrier(Check c) {
        c.answers("post(0,0,1) post(99,0,1) hour() assign(0,0) assign(7,5) wouldDeliver(0)=1 wouldDeliver(5)=1 goOut(5)"
                + " wouldDeliver(5)=1");
        c.invalid("wouldDeliver(-1)", "wouldDeliver(6)", "wouldDeliver(min)", "wouldDeliver(max)");
    }

    @Says(under = "Promise 26: wouldDeliver", sentence = "Returns the number; INVALID_ARGUMENT if carrier is out of range;"
            + " ILLEGAL_STATE if it is in and could not go out.")
    static void wouldDeliverReturns(Check c) {
        c.refused("post(5,0,3) hour()", "wouldDeliver(2)", -2);
        c.refused("assign(0,2)", "wouldDeliver(2)", -2);
        c.refused("post(5,0,3) assign(0,2)", "wouldDeliver(2)", -2);
        c.changesNothing(FRAMED + "goOut(2) setRange(5,5,1)", "wouldDeliver(2)", 0);
        c.changesNothing(FRAMED + "goOut(2)", "wouldDeliver(2)", 2);
        c.refused("", "wouldDeliver(6)", -1);
        c.refused("", "wouldDeliver(-1)", -1);
        c.refused("", "wouldDeliver(0)", -2);
        c.refused("", "wouldDeliver(5)", -2);
    }
}
