/** Tests of the sentences of the promises 1 to 5. */
final class MailBounds {
    /** Where the letters of the busy office are: no call that sets something moves one of them. */
    private static final String PLACES = " letter(0,2)=5 letter(1,2)=4 letter(2,2)=2 letter(3,2)=2 letter(4,2)=2 letter(5,2)=4"
            + " letter(6,2)=3 letter(7,2)=3 letter(8,2)=3 letter(6,4)=0 letter(9,2)=1 letter(9,3)=2 letter(10,2)=0"
            + " letter(11,2)=0 count(11)=3";

    private MailBounds() {
    }

    @Says(under = "Promise 1: A new object", sentence = "Creates an office without letters; no walk has a carrier.")
    static void newObject(Check c) {
        c.answers("count(0)=0 count(1)=0 count(2)=0 count(3)=0 count(4)=0 count(5)=0 count(6)=0 letter(0,0)=-1 inBag(0)=-9"
                + " inFrame(0,0)=-9 inFrame(7,0)=-9 clearIn()=0 frame(0,4)=-9 frame(7,4)=-9 carrier(0,0)=-9 carrier(5,0)=-9");
        new Script(Check.BUSY).run(new WalkFrames());
        c.answers("count(6)=0 count(7)=0 count(8)=8 count(9)=0 count(12)=0 count(13)=0 count(14)=10 count(15)=8 count(16)=0"
                + " count(17)=0 count(18)=0 frame(0,4)=-9");
    }

    @Says(under = "Promise 2: post", sentence = "Lets letters come.")
    static void post(Check c) {
        c.answers("hour() post(3,1,2)=0 count(6)=2 letter(0,0)=3 letter(1,0)=3 letter(0,1)=1 letter(1,1)=1 letter(1,2)=0"
                + " letter(1,5)=0 letter(1,6)=1 letter(1,7)=-9 letter(1,8)=0 post(3,0,1)=2 letter(2,1)=0");
    }

    @Says(under = "Promise 2: post", sentence = "This is an action.")
    static void postIsAction(Check c) {
        c.action("", "post(0,0,1)");
        c.action(Check.BUSY, "post(99,1,20)");
        c.action("5*post(0,0,20)", "post(0,0,20)");
    }

    @Says(under = "Promise 2: post", sentence = "- `code`: 0 to 99")
    static void postCode(Check c) {
        c.answers("post(0,0,1)=0 post(1,0,1)=1 post(98,0,1)=2 post(99,0,1)=3 letter(0,0)=0 letter(2,0)=98 letter(3,0)=99"
                + " letter(3,8)=7");
        c.invalid("post(-1,0,1)", "post(100,0,1)", "post(min,0,1)", "post(max,0,1)");
    }

    @Says(under = "Promise 2: post", sentence = "- `category`: 0 or 1: their class")
    static void postCategory(Check c) {
        c.answers("post(0,0,1)=0 post(0,1,1)=1 letter(0,1)=0 letter(1,1)=1");
        c.invalid("post(0,-1,1)", "post(0,2,1)", "post(0,min,1)", "post(0,max,1)");
    }

    @Says(under = "Promise 2: post", sentence = "- `many`: 1 to 20")
    static void postMany(Check c) {
        c.answers("post(0,0,1)=0 count(6)=1 post(0,0,20)=1 count(6)=21 post(0,0,19)=21 count(6)=40");
        c.invalid("post(0,0,0)", "post(0,0,21)", "post(0,0,-1)", "post(0,0,min)", "post(0,0,max)");
    }

    @Says(under = "Promise 2: post", sentence = "Returns the number of the first one; INVALID_ARGUMENT if an argument is out of"
            + " range; CAPACITY_EXCEEDED if there would be more than 120 letters.")
    static void postReturns(Check c) {
        c.answers("post(0,0,3)=0 post(0,0,1)=3 post(0,0,1)=4 undo() post(0,0,1)=4");
        c.answers("5*post(0,0,20)=80 post(0,0,20)=100 count(6)=120");
        c.answers("5*post(0,0,20)=80 post(0,0,19)=100 post(0,0,1)=119 post(0,0,1)=-3 count(6)=120");
        c.refused("5*post(0,0,20) post(0,0,1)", "post(0,0,20)", -3);
        c.refused("5*post(0,0,20) post(0,0,19)", "post(0,0,2)", -3);
        c.refused("6*post(0,0,20)", "post(99,1,1)", -3);
        c.refused("6*post(0,0,20)", "post(99,1,20)", -3);
        c.refused("6*post(0,0,20)", "post(-1,0,1)", -1);
        c.refused("6*post(0,0,20)", "post(0,0,0)", -1);
        c.refused("5*post(0,0,20) post(0,0,1)", "post(0,0,21)", -1);
        c.invalid("post(-1,2,0)", "post(100,0,21)");
        // A call that would be one too many leaves room for one that is not.
        c.answers("5*post(0,0,20) post(0,0,1) post(0,0,20)=-3 post(0,0,19)=101");
    }

    @Says(under = "Promise 3: hour", sentence = "Lets an hour pass.")
    static void hour(Check c) {
        c.answers("post(0,0,1) hour()=0 count(7)=1 letter(0,3)=0 count(0)=0");
        c.answers("499*hour()=0 count(7)=499 hour()=0 count(7)=500");
    }

    @Says(under = "Promise 3: hour", sentence = "This is an action.")
    static void hourIsAction(Check c) {
        c.action("", "hour()");
        c.action(Check.BUSY, "hour()");
    }

    @Says(under = "Promise 3: hour", sentence = "Returns the number of letters that are in the overflow then; CAPACITY_EXCEEDED"
            + " if the present hour is 500.")
    static void hourReturns(Check c) {
        c.answers("hour()=0 post(0,0,6) hour()=0 post(0,0,1) hour()=1 count(2)=1 post(0,0,20) hour()=10 count(2)=10 count(0)=11");
        c.answers("499*hour() hour()=0 hour()=-3 count(7)=500 undo()=4 count(7)=499 hour()=0 count(7)=500 hour()=-3");
        c.refused("500*hour()", "hour()", -3);
        c.refused("500*hour() post(0,0,7)", "hour()", -3);
        // A snapshot of an earlier hour leads back.
        c.answers("take(0) 500*hour() hour()=-3 restore(0)=0 hour()=0 count(7)=1");
    }

    @Says(under = "Promise 4: setRange", sentence = "Makes the codes of a range belong to a walk.")
    static void setRange(Check c) {
        c.answers("setRange(10,14,7)=9 stretch(9,0)=0 stretch(10,0)=7 stretch(14,0)=7 stretch(15,0)=1 stretch(12,1)=10"
                + " stretch(12,2)=14");
        c.answers("setRange(0,0,7)=9 stretch(0,0)=7 stretch(1,0)=0 setRange(99,99,0)=10 stretch(99,0)=0 stretch(98,0)=7");
        c.answers("setRange(0,99,0)=1 stretch(0,0)=0 stretch(99,0)=0");
    }

    @Says(under = "Promise 4: setRange", sentence = "Letters stay where they are.")
    static void setRangeMovesNone(Check c) {
        c.answers(Check.BUSY + " setRange(0,99,3)=1" + PLACES + " count(10)=1 frame(2,1)=1 frame(3,1)=0 comeBack(0)=0"
                + " letter(6,2)=0");
    }

    @Says(under = "Promise 4: setRange", sentence = "This is an action.")
    static void setRangeIsAction(Check c) {
        c.action("", "setRange(0,99,7)");
        c.action("", "setRange(0,12,0)");
        c.action(Check.BUSY, "setRange(1,30,6)");
    }

    @Says(under = "Promise 4: setRange", sentence = "- `from`: 0 to 99")
    static void setRangeFrom(Check c) {
        c.answers("setRange(0,5,1)=9 setRange(99,99,1)=10 stretch(0,0)=1 stretch(99,0)=1");
        c.invalid("setRange(-1,5,1)", "setRange(-1,-1,1)", "setRange(100,100,1)", "setRange(100,99,1)", "setRange(min,0,1)",
                "setRange(max,max,1)");
    }

    @Says(under = "Promise 4: setRange", sentence = "- `to`: from to 99")
    static void setRangeTo(Check c) {
        c.answers("setRange(50,50,1)=9 stretch(50,0)=1 stretch(51,0)=4 setRange(50,99,1)=5 stretch(99,0)=1");
        c.invalid("setRange(50,49,1)", "setRange(50,100,1)", "setRange(0,-1,1)", "setRange(99,100,1)", "setRange(99,98,1)",
                "setRange(0,min,1)", "setRange(0,max,1)");
    }

    @Says(under = "Promise 4: setRange", sentence = "- `walk`: 0 to 7")
    static void setRangeWalk(Check c) {
        c.answers("setRange(50,51,0)=9 stretch(50,0)=0 setRange(50,51,7)=9 stretch(51,0)=7");
        c.invalid("setRange(50,51,-1)", "setRange(50,51,8)", "setRange(0,0,min)", "setRange(0,0,max)");
    }

    @Says(under = "Promise 4: setRange",
            sentence = "Returns the number of stretches then; INVALID_ARGUMENT if an argument is out of range.")
    static void setRangeReturns(Check c) {
        c.answers("setRange(0,12,0)=8 setRange(0,12,1)=7 setRange(5,5,0)=9 setRange(0,4,0)=8 setRange(6,99,0)=1"
                + " setRange(0,0,1)=2 setRange(99,99,1)=3 count(8)=3");
        c.invalid("setRange(-1,-2,8)", "setRange(5,4,8)");
    }

    @Says(under = "Promise 5: set", sentence = "Sets a number.")
    static void set(Check c) {
        c.answers("set(3,2) frame(3,0)=2 frame(2,0)=6 frame(4,0)=6 set(8,1) count(13)=1 set(9,3) count(14)=3 set(10,4)"
                + " count(15)=4 frame(3,0)=2 count(13)=1 count(14)=3");
    }

    @Says(under = "Promise 5: set", sentence = "Letters stay where they are.")
    static void setMovesNone(Check c) {
        c.answers(Check.BUSY + " set(0,20)" + PLACES + " set(2,1)" + PLACES + " set(8,2)" + PLACES + " set(9,40)" + PLACES
                + " set(10,1)" + PLACES + " carrier(0,2)=3");
        c.answers("post(0,0,6) hour() set(0,1)=6 frame(0,1)=6 letter(5,3)=0 count(2)=0");
    }

    @Says(under = "Promise 5: set", sentence = "This is an action.")
    static void setIsAction(Check c) {
        c.action("", "set(0,20)");
        c.action("", "set(7,6)");
        c.action("", "set(8,2)");
        c.action("", "set(10,30)");
        c.action(Check.BUSY, "set(9,40)");
    }

    @Says(under = "Promise 5: set", sentence = "- `what`: 0 to 7 for the holes of the frame of this walk (1 to 20), 8 for the rule"
            + " (0 to 2), 9 for the speed (1 to 40), 10 for the load (1 to 30)")
    static void setWhat(Check c) {
        c.answers("set(0,1)=6 set(0,20)=1 set(0,1)=20 set(7,1)=6 set(7,20)=1 set(7,1)=20 set(8,0)=0 set(8,2)=0 set(8,0)=2"
                + " set(9,1)=10 set(9,40)=1 set(9,1)=40 set(10,1)=8 set(10,30)=1 set(10,1)=30");
        for (int walk = 0; walk <= 7; walk++) {
            c.invalid("set(" + walk + ",0)", "set(" + walk + ",21)");
        }
        c.invalid("set(-1,1)", "set(11,1)", "set(min,1)", "set(max,1)", "set(8,-1)", "set(8,3)", "set(9,0)", "set(9,41)",
                "set(10,0)", "set(10,31)");
    }

    @Says(under = "Promise 5: set", sentence = "- `value`: the new number")
    static void setValue(Check c) {
        c.answers("set(6,20)=6 frame(6,0)=20 set(8,2)=0 count(13)=2 set(9,40)=10 count(14)=40 set(10,30)=8 count(15)=30");
        c.invalid("set(0,min)", "set(0,max)", "set(0,-1)", "set(8,min)", "set(8,max)", "set(9,min)", "set(9,max)",
                "set(9,-1)", "set(10,min)", "set(10,max)", "set(10,-1)");
    }

    @Says(under = "Promise 5: set", sentence = "Returns the previous number; INVALID_ARGUMENT if an argument is out of range.")
    static void setReturns(Check c) {
        c.answers("set(5,7)=6 set(5,7)=7 set(5,8)=7 set(4,9)=6 undo()=3 set(5,1)=8");
        c.invalid("set(-1,-1)", "set(11,0)", "set(11,100)");
    }
}
