/** Tests of the sentences of the promises 12 to 14. */
final class TextBounds {
    private TextBounds() {
    }

    @Says(under = "Promise 12: append", sentence = "Appends a character to the text.")
    static void append(Check c) {
        c.answers("append(48)=1 append(45)=2 append(57)=3 append(61)=4 append(55)=5 setRanges()=1 stretch(9,0)=7");
        c.answers("append(48) append(45) append(57) append(61) append(56) setRanges()=-1004 append(55)=6 setRanges()=-1004");
        c.answers("hour() append(48)=1 count(17)=1 undo()=0 count(18)=1");
    }

    @Says(under = "Promise 12: append", sentence = "- `character`: character code, 1 to 255")
    static void appendCharacter(Check c) {
        c.answers("append(1)=1 append(255)=2 append(128)=3 append(127)=4 count(18)=4");
        c.invalid("append(0)", "append(256)", "append(-1)", "append(304)", "append(65584)", "append(min)", "append(max)");
    }

    @Says(under = "Promise 12: append", sentence = "Returns the new length of the text; INVALID_ARGUMENT if character is out of"
            + " range; CAPACITY_EXCEEDED if the text already has 80 characters.")
    static void appendReturns(Check c) {
        c.answers("append(49)=1 78*append(49)=79 append(49)=80 append(49)=-3 append(49)=-3 count(18)=80");
        c.refused("80*append(49)", "append(1)", -3);
        c.refused("80*append(49)", "append(255)", -3);
        c.refused("80*append(49)", "append(0)", -1);
        c.refused("80*append(49)", "append(256)", -1);
        c.refused("79*append(49)", "append(256)", -1);
        c.answers("80*append(49) clearText()=80 append(49)=1");
    }

    @Says(under = "Promise 13: clearText", sentence = "Makes the text empty.")
    static void clearText(Check c) {
        c.answers("text(0-9=7) clearText()=5 count(18)=0 setRanges()=-1000 stretch(9,0)=0 text(1-2=3) setRanges()=1"
                + " stretch(0,0)=0 stretch(1,0)=3");
        c.answers("hour() append(48) clearText() count(17)=1 undo()=0 count(18)=0");
    }

    @Says(under = "Promise 13: clearText", sentence = "Returns the previous length of the text.")
    static void clearTextReturns(Check c) {
        c.answers("clearText()=0 append(48) clearText()=1 clearText()=0 79*append(48) clearText()=79 80*append(48)"
                + " clearText()=80 clearText()=0");
        c.changesNothing("", "clearText()", 0);
    }

    @Says(under = "Promise 14: setRanges", sentence = "Makes the ranges of the text belong to their walks, one behind another, and"
            + " makes the text empty.")
    static void setRanges(Check c) {
        c.answers("text(0-9=7;5-5=2;90-99=0)=19 setRanges()=3 count(18)=0 stretch(4,0)=7 stretch(5,0)=2 stretch(6,0)=7"
                + " stretch(10,0)=0 stretch(89,0)=7 stretch(90,0)=0 stretch(99,0)=0 count(8)=12 setRanges()=-1000");
        // The later one has the codes that both have.
        c.answers("text(0-50=1;50-99=2) setRanges()=2 stretch(49,0)=1 stretch(50,0)=2 count(8)=2");
        c.answers("text(50-99=2;0-50=1) setRanges()=2 stretch(50,0)=1 stretch(51,0)=2 count(8)=2");
        c.answers("text(0-99=0;0-99=7) setRanges()=2 count(8)=1 stretch(0,0)=7");
        // Letters stay where they are, as with setRange.
        c.answers("post(5,0,1) hour() text(5-5=7) setRanges()=1 letter(0,3)=0 letter(0,8)=7 count(10)=1");
    }

    @Says(under = "Promise 14: setRanges", sentence = "This is one action.")
    static void setRangesIsAction(Check c) {
        c.action("text(0-9=7;5-5=2;90-99=0)", "setRanges()");
        c.action("text(0-12=0)", "setRanges()");
        c.action(Check.BUSY + " append(55)", "setRanges()");
        c.answers("text(0-9=7;5-5=2;90-99=0) setRanges()=3 count(17)=1 undo()=0 count(8)=8 stretch(5,0)=0 count(18)=0");
    }

    @Says(under = "Promise 14: setRanges", sentence = "Returns the number of ranges; -1000 minus the fault of the text if it has one"
            + " (which is an error); INVALID_ARGUMENT if the first code of a range is above its last one (nothing is done then).")
    static void setRangesReturns(Check c) {
        c.answers("text(5-5=0) setRanges()=1 text(5-5=0;6-6=0) setRanges()=2");
        c.refused("", "setRanges()", -1000);
        c.refused("append(48)", "setRanges()", -1001);
        c.refused("80*append(48)", "setRanges()", -1001);
        c.refused("text(1-2=3;)", "setRanges()", -1006);
        c.refused(Check.BUSY, "setRanges()", -1004);
        // The first code is just above the last one, far above it, in the first range, in the last one.
        c.refused("text(6-5=0)", "setRanges()", -1);
        c.refused("text(10-9=0)", "setRanges()", -1);
        c.refused("text(99-0=0)", "setRanges()", -1);
        c.refused("text(1-0=7;1-2=3)", "setRanges()", -1);
        c.refused("text(0-50=7;1-1=1;51-50=3)", "setRanges()", -1);
        c.refused(Check.BUSY + " text(5;7-6=1)", "setRanges()", -1);
        c.answers("text(6-5=0) setRanges()=-1 count(18)=5 count(8)=8 count(17)=0 clearText()=5");
        // A fault as well: ahead of the range or behind it.
        c.refused("text(6-5=8)", "setRanges()", -1004);
        c.refused("text(6-5=0;)", "setRanges()", -1006);
        c.refused("text(1-2=3;6-5=0x)", "setRanges()", -1011);
        c.refused("text(6-5=0;1-2=3;x)", "setRanges()", -1012);
    }
}
