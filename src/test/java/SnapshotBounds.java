/** Tests of the sentences of the promises 9 to 11. */
final class SnapshotBounds {
    private SnapshotBounds() {
    }

    @Says(under = "Promise 9: take", sentence = "Takes a snapshot, in place of one that is there.")
    static void take(Check c) {
        c.answers("take(0)=0 hour() take(0)=1 count(16)=1 hour() restore(0)=1 count(7)=1 restore(1)=-2");
        c.answers("take(1)=0 hour() take(0)=1 count(16)=2 hour() take(1)=2 count(16)=2 restore(0)=1 restore(1)=2");
    }

    @Says(under = "Promise 9: take", sentence = "This is an action.")
    static void takeIsAction(Check c) {
        c.action("", "take(0)");
        c.action("", "take(1)");
        c.action("take(0) hour()", "take(0)");
        c.action(Check.BUSY, "take(0)");
        c.action(Check.BUSY, "take(1)");
        // The one whose place is taken comes back.
        c.answers("take(0) hour() take(0) undo()=2 restore(0)=0");
    }

    @Says(under = "Promise 9: take", sentence = "- `slot`: 0 or 1")
    static void takeSlot(Check c) {
        c.answers("hour() take(0)=1 take(1)=1 restore(0)=1 restore(1)=1");
        c.invalid("take(-1)", "take(2)", "take(min)", "take(max)");
    }

    @Says(under = "Promise 9: take", sentence = "Returns the present hour; INVALID_ARGUMENT if slot is out of range.")
    static void takeReturns(Check c) {
        c.answers("take(0)=0 500*hour() take(0)=500 take(1)=500 count(17)=5 restore(0)=500 hour()=-3");
        c.refused("500*hour()", "take(2)", -1);
        c.refused("take(0) take(1)", "take(2)", -1);
    }

    @Says(under = "Promise 10: restore", sentence = "Restores a snapshot, which stays.")
    static void restore(Check c) {
        c.answers("take(0) hour() restore(0)=0 count(16)=1 hour() hour() restore(0)=0 count(7)=0 restore(0)=0");
        c.answers("take(0) hour() take(1) hour() restore(0)=0 restore(1)=1 restore(0)=0 count(16)=2");
        // What is done behind it does not change what the slot keeps.
        c.answers("take(0) restore(0) post(0,0,1) set(0,1) setRange(0,99,1) assign(0,0) hour() restore(0)=0 count(6)=0"
                + " frame(0,0)=6 count(8)=8 frame(0,4)=-9");
    }

    @Says(under = "Promise 10: restore", sentence = "This is an action.")
    static void restoreIsAction(Check c) {
        c.action("take(0)", "restore(0)");
        c.action("hour() take(1) post(0,0,3) hour()", "restore(1)");
        c.action(Check.BUSY, "restore(0)");
    }

    @Says(under = "Promise 10: restore", sentence = "- `slot`: 0 or 1")
    static void restoreSlot(Check c) {
        c.answers("take(0) hour() take(1) restore(0)=0 restore(1)=1");
        c.invalid("restore(-1)", "restore(2)", "restore(min)", "restore(max)");
        c.refused("take(0) take(1)", "restore(-1)", -1);
        c.refused("take(0) take(1)", "restore(2)", -1);
    }

    @Says(under = "Promise 10: restore", sentence = "Returns the present hour then; INVALID_ARGUMENT if slot is out of range;"
            + " ILLEGAL_STATE if the slot is empty.")
    static void restoreReturns(Check c) {
        c.answers("500*hour() take(1)=500 undo() undo() count(7)=499 restore(1)=-2 take(1)=499 hour()=0 restore(1)=499"
                + " count(7)=499");
        c.answers("take(0) 500*hour() restore(0)=0 count(7)=0");
        c.refused("", "restore(0)", -2);
        c.refused("", "restore(1)", -2);
        c.refused("hour() take(0)", "restore(1)", -2);
        c.refused("hour() take(1)", "restore(0)", -2);
        c.refused("hour() take(1) undo()", "restore(1)", -2);
        c.refused("", "restore(2)", -1);
        c.refused("", "restore(-1)", -1);
    }

    @Says(under = "Promise 11: undo", sentence = "Removes the latest state from the history and restores it.")
    static void undo(Check c) {
        c.answers("post(0,0,2) hour() undo()=1 count(7)=0 count(0)=2 count(1)=0 undo()=0 count(6)=0");
        c.sameOffice(Check.BUSY + " hour() undo()", Check.BUSY);
        c.sameOffice(Check.BUSY + " comeBack(0) undo()", Check.BUSY);
        c.sameOffice(Check.BUSY + " hour() comeBack(0) restore(0) take(1) assign(7,-1) 5*undo()", Check.BUSY);
        // It is no action: the state that it leaves is not to be had again.
        c.answers("hour() hour() undo()=1 undo()=0 count(7)=0 undo()=-2 count(7)=0");
    }

    @Says(under = "Promise 11: undo", sentence = "Returns the number of states that are left in the history; ILLEGAL_STATE if it"
            + " is empty.")
    static void undoReturns(Check c) {
        c.answers("hour() undo()=0 hour() hour() undo()=1 count(17)=1 undo()=0 count(17)=0 undo()=-2");
        c.answers("5*hour() undo()=4 undo()=3 undo()=2 undo()=1 undo()=0 undo()=-2 count(7)=0");
        c.answers("6*hour() undo()=4 undo()=3 undo()=2 undo()=1 undo()=0 undo()=-2 count(7)=1");
        c.refused("", "undo()", -2);
        c.refused("7*hour() 5*undo()", "undo()", -2);
        c.refused("text(0-9=1)", "undo()", -2);
        c.refused("post(0,0,0)", "undo()", -2);
    }
}
