/** Tests of what the document says of the text, of snapshots, of undo and of errors. */
final class TextTerms {
    /** Actions that change all that a snapshot keeps, behind the busy office. */
    private static final String CHANGES = " post(99,1,3) comeBack(0) setRange(3,40,2) set(2,1) set(8,2) set(9,2) set(10,1)"
            + " assign(3,4) hour() assign(0,-1) hour()";
    private static final String LATER = " comeBack(0) hour() goOut(0) hour() setRange(0,2,2) comeBack(0) hour()";

    private TextTerms() {
    }

    @Says(under = "Text", promises = {1, 12, 13, 14, 15},
            sentence = "There is a text of at most 80 characters, empty at first.")
    static void lengthOfText(Check c) {
        c.answers("count(18)=0 clearText()=0 setRanges()=-1000 append(49)=1 count(18)=1");
        c.answers("79*append(49)=79 append(49)=80 count(18)=80 append(49)=-3 clearText()=80 count(18)=0 append(49)=1");
        c.refused("80*append(49)", "append(49)", -3);
    }

    @Says(under = "Text", promises = {14},
            sentence = "A text of ranges is one or more ranges with \";\" between two; a range is a number, \"-\", a number,"
            + " \"=\", and a digit from 0 to 7.")
    static void textOfRanges(Check c) {
        c.answers("text(0-9=0) setRanges()=1");
        c.answers("text(0-0=7;99-99=0) setRanges()=2 stretch(0,0)=7 stretch(99,0)=0 count(8)=10");
        // As many as 80 characters can hold.
        c.answers("text(0-0=0;1-1=1;2-2=2;3-3=3;4-4=4;5-5=5;6-6=6;7-7=7;8-8=0;9-9=1;0-0=2;1-1=3;2-2=4)=77 setRanges()=13"
                + " stretch(0,0)=2 stretch(1,0)=3 stretch(2,0)=4 stretch(9,0)=1");
        c.refused("", "setRanges()", -1000);
        c.refused("text(;)", "setRanges()", -1000);
        c.refused("text(;0-9=0)", "setRanges()", -1000);
        c.refused("text(0-9=0;)", "setRanges()", -1006);
        c.refused("text(0-9=0;;1-1=1)", "setRanges()", -1006);
        c.refused("text(0-9=00-9=0)", "setRanges()", -1005);
        c.refused("text(0-9=0,1-1=1)", "setRanges()", -1005);
        // The digit: the least, the greatest, the signs beside them.
        c.answers("text(0-9=7) setRanges()=1 stretch(0,0)=7");
        c.refused("text(0-9=8)", "setRanges()", -1004);
        c.refused("text(0-9=9)", "setRanges()", -1004);
        c.refused("text(0-9=/)", "setRanges()", -1004);
        c.refused("text(0-9=)", "setRanges()", -1004);
        c.refused("text(0-9=-1)", "setRanges()", -1004);
        c.refused("text(0-9=07)", "setRanges()", -1005);
        // The signs between.
        c.refused("text(0=9=0)", "setRanges()", -1001);
        c.refused("text(0-9-0)", "setRanges()", -1003);
        c.refused("text(0--9=0)", "setRanges()", -1002);
        c.refused("text(-9=0)", "setRanges()", -1000);
        c.refused("text(0-=0)", "setRanges()", -1002);
        c.refused("append(32) text(0-9=0)", "setRanges()", -1000);
        c.refused("text(0-9=0) append(32)", "setRanges()", -1005);
    }

    @Says(under = "Text", promises = {14}, sentence = "A number is one or two digits, the first of two not 0.")
    static void numbers(Check c) {
        c.answers("text(0-9=1) setRanges()=1 stretch(9,0)=1 stretch(9,1)=0");
        c.answers("text(10-99=1) setRanges()=1 stretch(10,1)=10 stretch(99,2)=99");
        c.answers("text(9-10=2) setRanges()=1 stretch(9,2)=10 stretch(10,1)=9");
        c.refused("text(00-9=1)", "setRanges()", -1001);
        c.refused("text(01-9=1)", "setRanges()", -1001);
        c.refused("text(09-9=1)", "setRanges()", -1001);
        c.refused("text(0-00=1)", "setRanges()", -1003);
        c.refused("text(0-09=1)", "setRanges()", -1003);
        c.refused("text(100-9=1)", "setRanges()", -1002);
        c.refused("text(0-100=1)", "setRanges()", -1004);
        c.refused("text(999-9=1)", "setRanges()", -1002);
        c.refused("text(/-9=1)", "setRanges()", -1000);
        c.refused("text(:-9=1)", "setRanges()", -1000);
        c.refused("text(1/-9=1)", "setRanges()", -1001);
        c.refused("text(1:-9=1)", "setRanges()", -1001);
    }

    @Says(under = "Text", promises = {14},
            sentence = "The fault of the text is the index, from 0, of the first character that is not allowed at its place, or"
            + " the length of the text if it ends too early (as the empty text does).")
    static void faults(Check c) {
        String right = "10-20=3;40-50=6";
        for (int length = 0; length <= right.length(); length++) {
            String start = "text(" + right.substring(0, length) + ")";
            if (length == 7 || length == right.length()) {
                c.answers(start + " setRanges()=" + (length == 7 ? 1 : 2));
            } else {
                c.refused(start, "setRanges()", -1000 - length);
            }
        }
        for (int at = 0; at < right.length(); at++) {
            c.refused("text(" + right.substring(0, at) + "x" + right.substring(at + 1) + ")", "setRanges()", -1000 - at);
            c.refused("text(" + right.substring(0, at) + ") append(255)", "setRanges()", -1000 - at);
        }
        // The first one of two, and those of a full text.
        c.refused("text(1x-2x=3)", "setRanges()", -1001);
        c.refused("80*append(49)", "setRanges()", -1002);
        String ten = "10-19=0;20-29=1;30-39=2;40-49=3;50-59=4;60-69=5;70-79=6;80-89=7;90-99=0;10-19=1";
        c.answers("text(" + ten + ")=79 setRanges()=10");
        c.refused("text(" + ten + ";)", "setRanges()", -1080);
        c.refused("text(" + ten + "1)", "setRanges()", -1079);
        // Behind as many ranges as a text can hold, one more begins.
        String thirteen = "0-0=0;1-1=1;2-2=2;3-3=3;4-4=4;5-5=5;6-6=6;7-7=7;8-8=0;9-9=1;0-0=2;1-1=3;2-2=4";
        c.refused("text(" + thirteen + ";)", "setRanges()", -1078);
        c.refused("text(" + thirteen + ";5)", "setRanges()", -1079);
        c.refused("text(" + thirteen + ";5-)", "setRanges()", -1080);
        c.refused("text(" + thirteen + ";-5)", "setRanges()", -1078);
    }

    @Says(under = "Snapshots", promises = {1, 9, 10, 15}, sentence = "There are two slots for snapshots, empty at first.")
    static void slots(Check c) {
        c.answers("count(16)=0 restore(0)=-2 restore(1)=-2 take(0)=0 count(16)=1 restore(1)=-2 hour() take(1)=1 count(16)=2"
                + " restore(0)=0 restore(1)=1 take(1)=1 count(16)=2");
        c.refused("", "restore(0)", -2);
        c.refused("take(0)", "restore(1)", -2);
        c.refused("take(1)", "restore(0)", -2);
        c.invalid("take(-1)", "take(2)", "restore(-1)", "restore(2)");
    }

    @Says(under = "Snapshots", promises = {9, 10},
            sentence = "A snapshot keeps everything but the text, the slots and the history.")
    static void keptBySnapshot(Check c) {
        c.sameOffice(Check.BUSY + " take(1)" + CHANGES + " restore(1)", Check.BUSY + " take(1)");
        c.sameOffice(Check.BUSY + " take(1)" + CHANGES + " restore(1)", Check.BUSY);
        c.sameOffice("take(0) " + Check.BUSY + CHANGES + " take(1) restore(1)", Check.BUSY + CHANGES);
        c.answers("append(48)=1 take(0)=0 append(45)=2 take(1)=0 hour() restore(0)=0 count(18)=2 count(16)=2 count(17)=4"
                + " clearText()=2 restore(1)=0 count(18)=0 count(16)=2 count(17)=5 undo()=4 count(16)=2");
        c.answers("take(0) hour() take(0) restore(0)=1 hour() hour() restore(0)=1 undo()=4 count(7)=3 undo()=3 count(7)=2");
    }

    @Says(under = "Snapshots", promises = {10}, sentence = "To restore it makes all this as it was.")
    static void restored(Check c) {
        c.sameOffice(Check.BUSY + " take(1)" + CHANGES + " restore(1)" + LATER, Check.BUSY + LATER);
        c.sameOffice(Check.BUSY + " take(1)" + CHANGES + " restore(1) restore(1)" + LATER, Check.BUSY + LATER);
        c.sameOffice("take(1) " + Check.BUSY + CHANGES + " restore(1)", "");
        // The letter 0 came in the hour 0, and in the hour 2 when the snapshot was not yet restored.
        c.answers("take(1) post(5,0,1) hour() take(0)=1 restore(1)=0 hour() hour() post(90,1,1)=0 letter(0,6)=2 restore(0)=1"
                + " letter(0,6)=0 letter(0,0)=5 letter(0,1)=0 letter(0,3)=0 undo()=4 letter(0,6)=2 letter(0,0)=90");
        c.answers("take(0) 6*post(0,0,20)=100 restore(0)=0 count(6)=0 letter(0,0)=-1 post(7,0,1)=0 letter(0,0)=7");
    }

    @Says(under = "Undo", promises = {11, 15},
            sentence = "A history of at most 5 states is kept; a state is everything but the text and the history (the slots"
            + " belong to it).")
    static void history(Check c) {
        c.answers("count(17)=0 undo()=-2 hour() count(17)=1 4*hour() count(17)=5 hour() count(17)=5 undo()=4 undo()=3 undo()=2"
                + " undo()=1 undo()=0 count(7)=1 undo()=-2 count(7)=1");
        c.answers("append(48) hour() append(45) undo()=0 count(18)=2");
        c.answers("take(0) hour() take(0) take(1) undo()=3 count(16)=1 restore(1)=-2 undo()=2 restore(0)=0 undo()=2 undo()=1"
                + " undo()=0 count(16)=0 restore(0)=-2");
    }

    @Says(under = "Undo", promises = {2, 3, 4, 5, 6, 7, 8, 9, 10, 14},
            sentence = "Every successful call of a method that is called an action records the state before it (also if nothing"
            + " changes by it); when a sixth one is recorded, the oldest one is dropped.")
    static void recorded(Check c) {
        // Nothing changes by these.
        c.answers("setRange(0,12,0)=8 count(17)=1 set(0,6)=6 count(17)=2 assign(0,-1)=-9 count(17)=3 assign(0,0) assign(0,0)=0"
                + " count(17)=5 undo()=4 undo()=3 undo()=2 undo()=1 undo()=0");
        c.answers("take(0) take(0)=0 count(17)=2 restore(0)=0 count(17)=3 text(0-12=0) setRanges()=1 count(17)=4 hour()"
                + " count(17)=5");
        // These are no actions.
        c.answers("hour() append(48) clearText() setRanges() undo()=0 count(17)=0 hour() clearIn() wouldOverflow(2)"
                + " bestCarrier(0) wouldDeliver(0) stretch(0,0) inBag(0) count(17)=1");
        // These are not successful.
        c.answers("post(0,0,0)=-1 goOut(0)=-2 comeBack(0)=-2 restore(0)=-2 setRange(1,0,0)=-1 set(8,3)=-1 assign(8,0)=-1"
                + " take(2)=-1 setRanges()=-1000 text(9-0=0) setRanges()=-1 count(17)=0 undo()=-2");
        // The sixth one.
        c.answers("set(9,1) set(9,2) set(9,3) set(9,4) set(9,5) count(17)=5 set(9,6) count(17)=5 5*undo()=0 count(14)=1"
                + " undo()=-2 count(14)=1");
        c.answers("set(9,1) set(9,2) set(9,3) set(9,4) set(9,5) 5*undo()=0 count(14)=10");
    }

    @Says(under = "Undo", promises = {11}, sentence = "undo() removes the latest state from the history and restores it.")
    static void undone(Check c) {
        c.answers("set(9,1) set(9,2) set(9,3) undo()=2 count(14)=2 set(9,7) count(17)=3 undo()=2 count(14)=2 undo()=1"
                + " count(14)=1 undo()=0 count(14)=10 undo()=-2");
        c.sameOffice(Check.BUSY + " set(9,10)" + " post(99,1,3) comeBack(0) setRange(3,40,2) hour() 4*undo()", Check.BUSY);
        c.refused("", "undo()", -2);
        c.refused("hour() undo()", "undo()", -2);
    }

    @Says(under = "Errors", promises = {2, 3, 4, 5, 6, 7, 8, 9, 10, 11, 12, 14, 15, 16, 17, 18, 19, 20, 21, 22, 24, 25, 26},
            sentence = "A call that returns an error code changes nothing.")
    static void errorsChangeNothing(Check c) {
        c.invalid("post(100,0,1)", "setRange(5,4,0)", "set(11,1)", "assign(8,5)", "goOut(6)", "comeBack(6)", "take(2)",
                "restore(2)", "append(0)", "append(256)", "count(19)", "letter(12,0)", "letter(0,9)", "frame(0,5)",
                "carrier(0,4)", "rounds(6,8)", "stretch(0,3)", "inBag(-1)", "inFrame(0,-1)", "wouldOverflow(3)",
                "bestCarrier(8)", "wouldDeliver(6)");
        c.refused(Check.BUSY + " 5*post(0,0,20)", "post(0,0,20)", -3);
        c.refused(Check.BUSY, "assign(1,0)", -2);
        c.refused(Check.BUSY, "assign(0,5)", -2);
        c.refused(Check.BUSY, "goOut(0)", -2);
        c.refused(Check.BUSY, "goOut(3)", -2);
        c.refused(Check.BUSY, "comeBack(1)", -2);
        c.refused(Check.BUSY, "restore(1)", -2);
        c.refused(Check.BUSY, "setRanges()", -1004);
        c.refused(Check.BUSY + " clearText() text(9-0=1)", "setRanges()", -1);
        c.refused(Check.BUSY, "wouldDeliver(1)", -2);
        c.refused("500*hour()", "hour()", -3);
    }

    @Says(under = "Errors", promises = {2, 6, 7, 8, 10, 12, 14, 21, 22, 25, 26},
            sentence = "If several error conditions apply, the method returns the one that its description lists first; NONE is"
            + " no error, and it is returned only if no error condition applies.")
    static void firstError(Check c) {
        c.refused("6*post(0,0,20)", "post(100,0,1)", -1);
        c.refused("6*post(0,0,20)", "post(0,2,1)", -1);
        c.refused("6*post(0,0,20)", "post(0,0,21)", -1);
        c.refused("assign(0,0)", "assign(8,0)", -1);
        c.refused("post(0,0,1) hour() assign(0,0) goOut(0)", "assign(0,6)", -1);
        c.refused("post(0,0,1) hour() assign(0,0) goOut(0)", "assign(-1,0)", -1);
        c.refused("post(0,0,1) hour() assign(0,0) goOut(0)", "goOut(6)", -1);
        c.refused("", "comeBack(6)", -1);
        c.refused("", "restore(2)", -1);
        c.refused("80*append(49)", "append(0)", -1);
        c.refused("80*append(49)", "append(256)", -1);
        c.refused("text(9-0=1;5)", "setRanges()", -1007);
        c.refused("text(9-0=8)", "setRanges()", -1004);
        c.refused("text(0-9=1;9-0=1;x)", "setRanges()", -1012);
        c.refused("", "wouldDeliver(6)", -1);
        // NONE.
        c.refused("", "inBag(-1)", -1);
        c.refused("", "inFrame(8,0)", -1);
        c.refused("", "inFrame(0,-1)", -1);
        c.refused("assign(0,0) assign(1,1) assign(2,2) assign(3,3) assign(4,4) assign(5,5)", "bestCarrier(8)", -1);
        c.refused("assign(1,0)", "assign(0,0)", -2);
        c.answers("assign(0,0)=-9 count(17)=1 assign(0,-1)=0 assign(0,-1)=-9 count(17)=3");
    }

    @Says(under = "Errors", promises = {2, 16},
            sentence = "The constants: `INVALID_ARGUMENT = -1`: An argument is out of range, or names something that does not"
            + " exist.")
    static void invalidArgument(Check c) {
        c.due("INVALID_ARGUMENT", WalkFrames.INVALID_ARGUMENT, -1);
        c.answers("post(0,0,0)=-1 letter(0,0)=-1 post(0,0,1)=0 letter(0,0)=0 letter(1,0)=-1 carrier(6,0)=-1");
    }

    @Says(under = "Errors", promises = {8, 10, 11},
            sentence = "`ILLEGAL_STATE = -2`: The call is not possible in the present state.")
    static void illegalState(Check c) {
        c.due("ILLEGAL_STATE", WalkFrames.ILLEGAL_STATE, -2);
        c.answers("comeBack(0)=-2 restore(0)=-2 undo()=-2 goOut(0)=-2 wouldDeliver(0)=-2");
    }

    @Says(under = "Errors", promises = {2, 12}, sentence = "`CAPACITY_EXCEEDED = -3`: There is no room.")
    static void capacityExceeded(Check c) {
        c.due("CAPACITY_EXCEEDED", WalkFrames.CAPACITY_EXCEEDED, -3);
        c.answers("6*post(0,0,20)=100 post(0,0,1)=-3 80*append(49)=80 append(49)=-3");
    }

    @Says(under = "Errors", promises = {16, 17, 21}, sentence = "`NONE = -9`: There is no such value.")
    static void none(Check c) {
        c.due("NONE", WalkFrames.NONE, -9);
        c.answers("post(0,0,1) letter(0,3)=-9 letter(0,4)=-9 letter(0,7)=-9 frame(0,4)=-9 carrier(0,0)=-9 inBag(1)=-9"
                + " inFrame(0,0)=-9");
    }
}
