/** Tests of what the document says under "What it is", and of codes, walks, letters, frames and hours. */
final class OfficeTerms {
    private OfficeTerms() {
    }

    @Says(under = "What it is", promises = {2, 3, 5, 15},
            sentence = "An object is used for at most 512 calls after it has been made; what later calls answer is free.")
    static void last512thCall(Check c) {
        c.answers("500*hour()=0 11*count(7)=500 hour()=-3");
        c.answers("511*set(9,40)=40 set(9,1)=40");
        c.answers("6*post(0,0,20)=100 505*hour()=-3 wouldOverflow(0)=10");
        c.answers("80*append(49)=80 431*append(49)=-3 clearText()=80");
    }

    @Says(under = "Codes and walks", promises = {2, 4, 16, 20}, sentence = "Street codes are 0 to 99.")
    static void codes(Check c) {
        c.answers("post(0,0,1)=0 post(99,0,1)=1 letter(0,0)=0 letter(1,0)=99 setRange(0,0,3)=9 setRange(99,99,3)=10"
                + " stretch(0,0)=3 stretch(99,0)=3 setRange(0,99,2)=1");
        c.invalid("post(-1,0,1)", "post(100,0,1)", "setRange(-1,5,0)", "setRange(5,100,0)", "setRange(100,100,0)",
                "stretch(-1,0)", "stretch(100,0)");
    }

    @Says(under = "Codes and walks", promises = {4, 5, 6, 17, 19, 22, 25}, sentence = "There are 8 walks, 0 to 7.")
    static void walks(Check c) {
        c.answers("setRange(0,0,0)=8 setRange(99,99,7)=8 set(0,5)=6 set(7,5)=6 frame(0,0)=5 frame(7,0)=5 assign(0,0)=-9"
                + " assign(7,1)=-9 rounds(0,0)=0 rounds(0,7)=0 inFrame(0,0)=-9 inFrame(7,0)=-9 bestCarrier(0)=2"
                + " bestCarrier(7)=2");
        c.invalid("setRange(0,0,-1)", "setRange(0,0,8)", "set(-1,5)", "frame(-1,0)", "frame(8,0)", "assign(-1,5)",
                "assign(8,5)", "rounds(0,-1)", "rounds(0,8)", "inFrame(-1,0)", "inFrame(8,0)", "bestCarrier(-1)",
                "bestCarrier(8)");
    }

    @Says(under = "Codes and walks", promises = {1, 4, 16, 20},
            sentence = "Each code belongs to one walk; at first 0 to 12 belong to the walk 0, 13 to 24 to the walk 1, 25 to"
            + " 37 to the walk 2, 38 to 49 to the walk 3, 50 to 62 to the walk 4, 63 to 74 to the walk 5, 75 to 87 to the"
            + " walk 6, 88 to 99 to the walk 7.")
    static void firstWalks(Check c) {
        c.answers("stretch(0,0)=0 stretch(12,0)=0 stretch(13,0)=1 stretch(24,0)=1 stretch(25,0)=2 stretch(37,0)=2"
                + " stretch(38,0)=3 stretch(49,0)=3 stretch(50,0)=4 stretch(62,0)=4 stretch(63,0)=5 stretch(74,0)=5"
                + " stretch(75,0)=6 stretch(87,0)=6 stretch(88,0)=7 stretch(99,0)=7 count(8)=8");
        c.answers("post(12,0,1) post(13,0,1) letter(0,8)=0 letter(1,8)=1 setRange(12,13,5)=9 letter(0,8)=5"
                + " letter(1,8)=5 stretch(11,0)=0 stretch(12,0)=5 stretch(13,0)=5 stretch(14,0)=1");
    }

    @Says(under = "Codes and walks", promises = {4, 15, 20},
            sentence = "A stretch is a greatest row of codes, one behind another, that belong to the same walk.")
    static void stretches(Check c) {
        c.answers("setRange(50,50,0)=9 stretch(50,0)=0 stretch(50,1)=50 stretch(50,2)=50 stretch(49,2)=49"
                + " stretch(51,1)=51");
        c.answers("setRange(0,99,4)=1 count(8)=1 stretch(0,1)=0 stretch(0,2)=99 stretch(99,1)=0 stretch(99,2)=99");
        c.answers("setRange(13,24,0)=7 stretch(0,2)=24 stretch(24,1)=0 stretch(25,1)=25");
        c.answers("setRange(5,5,1)=10 stretch(5,2)=5 stretch(13,1)=13 stretch(4,2)=4 stretch(6,1)=6");
        // The row does not go on from the last code to the first one.
        c.answers("setRange(0,12,7)=8 stretch(0,1)=0 stretch(0,2)=12 stretch(99,1)=88 stretch(99,2)=99");
        StringBuilder most = new StringBuilder();
        for (int code = 0; code < 100; code++) {
            most.append(" setRange(" + code + "," + code + "," + code % 2 + ")");
        }
        c.answers(most + "=100 count(8)=100 stretch(0,2)=0 stretch(57,1)=57 stretch(57,2)=57 stretch(99,1)=99");
    }

    @Says(under = "Letters", promises = {2, 15, 16},
            sentence = "There are at most 120 letters, numbered from 0 in the order in which they came.")
    static void letters(Check c) {
        c.answers("post(0,0,20)=0 post(1,0,1)=20 letter(19,0)=0 letter(20,0)=1 letter(21,0)=-1 4*post(0,0,20)=81"
                + " post(0,0,18)=101 count(6)=119 post(7,1,1)=119 count(6)=120 letter(119,0)=7 letter(120,0)=-1"
                + " letter(-1,0)=-1");
        c.refused("6*post(0,0,20)", "post(0,0,1)", -3);
        // The delivered ones are letters still.
        c.refused("6*post(5,0,20) hour() assign(0,0) goOut(0)=6 comeBack(0)=3", "post(0,0,1)", -3);
    }

    @Says(under = "Letters", promises = {2, 15, 16},
            sentence = "A letter has a street code, a class (1 first, 0 second), a number of misroutes (0 at first), and a"
            + " place: 0 the bag, 1 a frame, 2 the overflow, 3 a carrier's hand, 4 delivered, 5 sent back.")
    static void places(Check c) {
        c.answers(Check.BUSY + " letter(10,2)=0 letter(11,2)=0 letter(9,2)=1 letter(2,2)=2 letter(4,2)=2 letter(6,2)=3"
                + " letter(8,2)=3 letter(1,2)=4 letter(5,2)=4 letter(0,2)=5 count(0)=2 count(1)=1 count(2)=3 count(3)=3"
                + " count(4)=2 count(5)=1 count(6)=12 letter(10,0)=60 letter(10,1)=1 letter(1,1)=0 letter(10,5)=0"
                + " letter(0,5)=3");
        c.invalid("post(0,-1,1)", "post(0,2,1)");
        // A number that is used again, behind a restore, tells nothing of the letter that had it.
        c.answers("take(1) " + Check.BUSY + " restore(1)=0 post(9,1,12)=0 letter(0,5)=0 letter(0,2)=0 letter(0,1)=1"
                + " letter(0,6)=0 letter(0,7)=-9 letter(6,4)=-9 letter(9,2)=0 letter(9,3)=-9 count(11)=0 count(0)=12");
    }

    @Says(under = "Letters", promises = {2, 21}, sentence = "When it comes it is in the bag.")
    static void comesIntoBag(Check c) {
        c.answers("post(0,1,2) letter(0,2)=0 letter(1,2)=0 letter(0,3)=-9 letter(0,4)=-9 count(0)=2 count(1)=0"
                + " inBag(0)=0 inBag(1)=1 inBag(2)=-9");
        c.answers("set(0,1) post(0,0,1) hour()=0 post(0,0,1)=1 letter(1,2)=0 frame(0,2)=0 count(2)=0");
    }

    @Says(under = "Letters", promises = {3, 21},
            sentence = "The letters in the bag have an order: those of the first class go first; of a class those with more"
            + " misroutes; of these those with smaller numbers.")
    static void orderOfBag(Check c) {
        c.answers("post(9,0,2) post(1,1,2) post(5,0,1) post(0,1,1) inBag(0)=2 inBag(1)=3 inBag(2)=5 inBag(3)=0"
                + " inBag(4)=1 inBag(5)=4 inBag(6)=-9");
        // 1 and 3 (first class) and 2 find no hole; 4 and 5 go to the frame 2 and come back as misroutes.
        c.answers("set(4,1) post(60,1,2) post(60,0,1) post(60,1,1) post(30,0,1) post(30,1,1) hour()=3 set(9,1) hour()=1"
                + " letter(1,2)=2 setRange(30,30,0) assign(2,0) goOut(0)=2 comeBack(0)=0 post(0,1,1)=6 post(0,0,1)=7"
                + " inBag(0)=5 inBag(1)=3 inBag(2)=6 inBag(3)=4 inBag(4)=2 inBag(5)=7 inBag(6)=-9");
        // Letter 1 has two misroutes, letter 0 has one, letter 2 none.
        c.answers("post(31,0,1) post(30,0,1) hour() setRange(30,30,3) set(10,1) assign(2,0) goOut(0)=1 comeBack(0)=0"
                + " hour() setRange(30,31,5) assign(3,1) goOut(1)=1 comeBack(1)=0 goOut(0)=1 comeBack(0)=0"
                + " letter(1,5)=2 letter(0,5)=1 post(0,0,1) inBag(0)=1 inBag(1)=0 inBag(2)=2 post(99,1,1) inBag(0)=3"
                + " inBag(1)=1 set(9,2) hour()=0 letter(3,3)=7 letter(1,3)=5 letter(0,2)=0");
    }

    @Says(under = "Letters", promises = {3, 15, 16},
            sentence = "A letter belongs to the walk to which its street code belongs at that time.")
    static void belongs(Check c) {
        c.answers("post(12,0,1) letter(0,8)=0 setRange(12,12,1) letter(0,8)=1 hour() letter(0,3)=1 setRange(12,12,2)"
                + " letter(0,8)=2 letter(0,3)=1 count(10)=1 setRange(12,12,1) letter(0,8)=1 count(10)=0");
        c.answers(Check.BUSY + " setRange(0,99,4) letter(0,8)=4 letter(1,8)=4 letter(2,8)=4 letter(6,8)=4 letter(9,8)=4"
                + " letter(10,8)=4");
    }

    @Says(under = "Frames and overflow", promises = {1, 3, 5, 17},
            sentence = "Each walk has a frame with 1 to 20 holes (at first 6), each for one letter.")
    static void holes(Check c) {
        c.answers("frame(0,0)=6 frame(1,0)=6 frame(2,0)=6 frame(3,0)=6 frame(4,0)=6 frame(5,0)=6 frame(6,0)=6"
                + " frame(7,0)=6");
        c.answers("post(0,0,7) hour()=1 frame(0,1)=6 frame(0,2)=0 letter(6,2)=2");
        c.answers("set(0,20)=6 set(9,40) post(0,0,20) post(0,0,1) hour()=1 frame(0,1)=20 letter(20,2)=2");
        c.answers("set(7,1)=6 post(99,0,2) hour()=1 frame(7,1)=1 letter(1,2)=2");
        c.invalid("set(0,0)", "set(0,21)", "set(7,0)", "set(7,21)");
    }

    @Says(under = "Frames and overflow", promises = {3, 5, 17},
            sentence = "A hole is free if no letter is in it; there are 0 free ones if more letters are in the frame than it"
            + " has holes.")
    static void freeHoles(Check c) {
        c.answers("frame(0,2)=6 post(0,0,5) hour() frame(0,2)=1 post(0,0,1) hour() frame(0,2)=0 set(0,5) frame(0,2)=0"
                + " set(0,1) frame(0,1)=6 frame(0,2)=0 set(0,7) frame(0,2)=1 set(0,20) frame(0,2)=14");
        c.answers("post(0,0,2) hour() set(0,1) post(0,0,1) hour()=1 letter(2,2)=2 frame(0,1)=2");
        c.answers("post(0,0,6) hour() assign(0,0) set(10,1) goOut(0)=1 frame(0,2)=1 comeBack(0)=1 frame(0,2)=1");
    }

    @Says(under = "Frames and overflow", promises = {3},
            sentence = "To sort a letter means: it goes into the frame of the walk to which it belongs, if a hole there is"
            + " free.")
    static void sortIntoOwnFrame(Check c) {
        c.answers("post(0,0,5) hour() post(0,0,1) hour()=0 letter(5,3)=0 post(0,0,1) hour()=1 letter(6,2)=2");
        c.answers("set(8,2) set(7,1) post(99,0,1) hour()=0 letter(0,3)=7");
        c.answers("set(8,1) set(0,2) post(0,0,1) hour() post(0,1,1) hour()=0 letter(0,3)=0 letter(1,3)=0");
        c.answers("post(0,0,1) setRange(0,0,7) hour()=0 letter(0,3)=7");
    }

    @Says(under = "Frames and overflow", promises = {1, 5, 24},
            sentence = "If none is, then by the rule (0 to 2; at first 0):")
    static void rules(Check c) {
        c.answers("count(13)=0 set(8,2)=0 count(13)=2 set(8,1)=2 count(13)=1 set(8,0)=1 count(13)=0 wouldOverflow(0)=0"
                + " wouldOverflow(2)=0");
        c.invalid("set(8,-1)", "set(8,3)", "wouldOverflow(-1)", "wouldOverflow(3)");
    }

    @Says(under = "Frames and overflow", promises = {3, 24}, sentence = "0  it goes to the overflow;")
    static void ruleOverflow(Check c) {
        c.answers("set(0,1) post(0,0,1) hour()=0 post(0,1,1) post(0,0,1) wouldOverflow(0)=2 hour()=2 letter(0,3)=0"
                + " letter(1,2)=2 letter(2,2)=2 frame(1,1)=0");
    }

    @Says(under = "Frames and overflow", promises = {3, 24},
            sentence = "1  if it is of the first class, and a letter of the second class is in this frame, the one of these"
            + " with the greatest number goes to the overflow, and it goes into the frame (also if more letters are there than"
            + " holes); otherwise it goes to the overflow;")
    static void ruleFirstClass(Check c) {
        // The greatest number, not the greatest code.
        c.answers("set(8,1) set(0,3) post(9,0,1) post(3,0,1) post(6,0,1) hour() post(5,1,1) wouldOverflow(1)=1 hour()=1"
                + " letter(2,2)=2 letter(3,3)=0 letter(0,3)=0 letter(1,3)=0");
        // It is of the second class.
        c.answers("set(8,1) set(0,1) post(0,0,1) hour() post(0,0,1) hour()=1 letter(1,2)=2 letter(0,3)=0");
        // No letter of the second class is in this frame, though one is in another.
        c.answers("set(8,1) set(0,1) post(0,1,1) post(20,0,1) hour()=0 post(0,1,1) hour()=1 letter(2,2)=2 letter(1,3)=1");
        // More letters than holes.
        c.answers("set(8,1) post(0,0,6) hour() set(0,1) post(0,1,1) hour()=1 frame(0,1)=6 frame(0,2)=0 letter(5,2)=2"
                + " letter(6,3)=0 letter(4,3)=0");
        // The displaced one need not belong there, and goes on to its own walk an hour later.
        c.answers("set(8,1) set(0,1) post(0,0,1) hour() setRange(0,0,1) post(5,1,1) hour()=1 letter(0,2)=2 letter(1,3)=0"
                + " hour()=0 letter(0,3)=1");
        // Each of two displaces one; a third finds none.
        c.answers("set(8,1) set(0,2) post(0,0,2) hour() post(0,1,3) hour()=3 letter(0,2)=2 letter(1,2)=2 letter(2,3)=0"
                + " letter(3,3)=0 letter(4,2)=2");
        // The letter of the second class is the latest that came at all: letter 0 came back as a misroute.
        c.answers("set(8,1) set(0,1) post(99,1,1) post(0,0,1) hour() setRange(99,99,0) assign(7,3) goOut(3) comeBack(3)=0"
                + " wouldOverflow(1)=1 hour()=1 letter(0,3)=0 letter(1,2)=2");
    }

    @Says(under = "Frames and overflow", promises = {3, 24},
            sentence = "2  it goes into the frame with the most free holes, of several that of the smallest walk; to the"
            + " overflow if no hole is free in any.")
    static void ruleMostFree(Check c) {
        c.answers("set(8,2) set(7,1) post(99,0,2) wouldOverflow(2)=0 hour()=0 letter(0,3)=7 letter(1,3)=0 count(10)=1");
        c.answers("set(8,2) set(0,1) set(5,7) post(0,0,2) hour()=0 letter(1,3)=5");
        c.answers("set(8,2) set(0,1) set(7,7) post(0,0,2) hour()=0 letter(1,3)=7");
        c.answers("set(8,2) set(0,1) set(1,1) set(2,1) set(3,1) set(4,1) set(5,1) set(6,1) set(7,1) post(0,0,9) hour()=1"
                + " letter(0,3)=0 letter(1,3)=1 letter(7,3)=7 letter(8,2)=2 frame(7,2)=0");
        c.answers("set(8,2) post(0,0,6) hour() set(0,1) post(0,0,1) hour()=0 letter(6,3)=1 frame(0,1)=6");
    }

    @Says(under = "An hour", promises = {1, 9, 15, 16}, sentence = "The present hour is 0 at first.")
    static void firstHour(Check c) {
        c.answers("count(7)=0 post(0,0,1) letter(0,6)=0 take(0)=0 restore(0)=0 hour() count(7)=1 restore(0)=0 count(7)=0");
    }

    @Says(under = "An hour", promises = {3, 5},
            sentence = "When an hour passes: it becomes greater by 1; all letters of the overflow go to the bag; then as many"
            + " letters as the speed (1 to 40; at first 10), or as there are, leave the bag, by its order as it is then, and"
            + " are sorted one behind another.")
    static void anHour(Check c) {
        c.answers("hour()=0 count(7)=1 hour()=0 count(7)=2 post(0,0,1) letter(0,6)=2");
        // The speed: at first, the least, the greatest, and one letter more than it.
        c.answers("count(14)=10 post(0,0,5) post(13,0,6) hour()=0 count(1)=10 count(0)=1 letter(10,2)=0");
        c.answers("set(9,1)=10 post(0,0,2) hour()=0 count(0)=1 count(1)=1 letter(0,3)=0 hour()=0 count(0)=0 hour()=0");
        c.answers("set(9,40)=10 set(0,20) set(1,20) set(2,20) post(0,0,20) post(13,0,20) post(25,0,1) hour()=0 count(0)=1"
                + " count(1)=40 letter(40,2)=0");
        c.answers("set(9,40) set(0,20) set(1,20) post(0,0,20) post(13,0,20) hour()=0 count(0)=0 count(1)=40");
        c.answers("post(0,0,3) hour()=0 count(1)=3 count(0)=0");
        c.invalid("set(9,0)", "set(9,41)");
        // The letters of the overflow go to the bag ahead of the sorting, and take part in its order.
        c.answers("set(0,1) post(0,0,3) hour()=2 set(9,1) hour()=1 count(0)=1 letter(1,2)=2 letter(2,2)=0 post(0,1,1)"
                + " hour()=1 letter(3,2)=2 letter(1,2)=0 letter(2,2)=0");
        c.answers("set(0,1) post(0,0,3) hour()=2 set(0,2) hour()=1 letter(1,3)=0 letter(2,2)=2");
        // One that is displaced waits for the next hour, though the speed is not used up.
        c.answers("set(0,1) set(8,1) post(0,0,1) hour() post(0,1,1) hour()=1 letter(0,2)=2 count(0)=0");
    }
}
