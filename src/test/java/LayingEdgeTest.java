/** The edges that promises 15 to 24 name, with the terms of spots, times and layings. */
public final class LayingEdgeTest {
    private static final Checks c = new Checks("LayingEdgeTest");
    private static final int MIN = Integer.MIN_VALUE;
    private static final int MAX = Integer.MAX_VALUE;

    public static void main(String[] args) {
        spots();
        times();
        places();
        betterLayings();
        slots();
        c.finish();
    }

    private static void spots() {
        c.edge(15, "The SPOT of a NAME; RANGE", LayingEdgeTest::spotOfNoName);
        c.edge(15, "TRACK times words and place", LayingEdgeTest::spotNumbers);
        c.edge(16, "A NAME is laid on a SPOT: on which it was", LayingEdgeTest::whereItWas);
        c.edge(16, "RANGE: no such NAME, SPOT (that is there)", LayingEdgeTest::layOutOfRange);
        c.edge(16, "STATE: it is BAD", LayingEdgeTest::layOnBad);
        c.edge(16, "or another one lies there", LayingEdgeTest::layOnAnother);
        c.edge(17, "A SPOT goes BAD, whether one lies there or not: the NAME that lies there (NONE)",
                LayingEdgeTest::nameOnBad);
        c.edge(17, "the NAME that lies there (NONE); RANGE", LayingEdgeTest::spoilOutOfRange);
        c.edge(17, "RANGE; STATE: it is BAD", LayingEdgeTest::spoilTwice);
    }

    private static void times() {
        c.edge(18, "TIME of a RUN by the LAYING; STATE: no NAMES", LayingEdgeTest::timeWithoutNames);
        c.edge(18, "it is 0 at first. Each STEP waits until its NAME comes, then takes 1", LayingEdgeTest::firstWait);
        c.edge(18, "A word at a place comes at each time that is the place modulo ROUND", LayingEdgeTest::comesRound);
        c.edge(18, "if its OP is load, add, less, times, store it waits until W comes, then takes 1",
                LayingEdgeTest::waitsForWord);
        c.edge(18, "times takes 2 more, and 1 for each bit that is 1 in W's VALUE", LayingEdgeTest::bitsOfTimes);
        c.edge(18, "print 3 more", LayingEdgeTest::printTakesMore);
        c.edge(18, "(A WRONG STEP: only its NAME.)", LayingEdgeTest::wrongStepTime);
        c.edge(18, "It ends LATE ahead of STEP 2001", LayingEdgeTest::lateTime);
    }

    private static void places() {
        c.edge(19, "PLACE of a NAME (it stays)", LayingEdgeTest::placeStays);
        c.edge(19, "of all SPOTS that are free and not BAD", LayingEdgeTest::freeAndNotBad);
        c.edge(19, "and its own (if it isn't BAD)", LayingEdgeTest::ownPlace);
        c.edge(19, "that on which the TIME is least; then the least", LayingEdgeTest::leastPlace);
        c.edge(19, "the SPOT; NONE", LayingEdgeTest::noPlace);
        c.edge(19, "NONE; RANGE", LayingEdgeTest::placeOfNoName);
        c.edge(20, "All NAMES that lie on BAD SPOTS are laid on their PLACES", LayingEdgeTest::mendAll);
        c.edge(20, "by rising NAMES: how many were", LayingEdgeTest::mendByNames);
        c.edge(20, "those without PLACE stay", LayingEdgeTest::mendWithoutPlace);
        c.edge(20, "STATE: no NAMES", LayingEdgeTest::mendWithoutNames);
    }

    private static void betterLayings() {
        c.edge(21, "for all pairs of NAMES by rising first, then second one", LayingEdgeTest::pairsInOrder);
        c.edge(21, "they are exchanged if that makes the TIME less", LayingEdgeTest::onlyIfLess);
        c.edge(21, "rounds until one changes nothing", LayingEdgeTest::roundsUntilNothing);
        c.edge(21, "20 at most", LayingEdgeTest::twentyRounds);
        c.edge(21, "(NAMES on BAD SPOTS are left out)", LayingEdgeTest::exchangeWithoutBad);
        c.edge(21, "the TIME then; STATE: no NAMES", LayingEdgeTest::exchangeWithoutNames);
        c.edge(22, "of a set of NAMES (bits; 1 .. 6 of them)", LayingEdgeTest::oneToSix);
        c.edge(22, "the TIME then; RANGE", LayingEdgeTest::bestOfNoNames);
        c.edge(22, "STATE: one of them lies on a BAD SPOT", LayingEdgeTest::bestOnBad);
        c.edge(22, "in the way that makes the TIME least", LayingEdgeTest::bestOfAllRows);
        c.edge(22, "then the least row of SPOTS by rising NAMES", LayingEdgeTest::leastRow);
    }

    private static void slots() {
        c.edge(23, "The LAYING is kept in a slot 0 .. 3: 1; RANGE", LayingEdgeTest::fourSlots);
        c.edge(23, "RANGE; STATE: no NAMES", LayingEdgeTest::keepWithoutNames);
        c.edge(24, "The LAYING of a slot is taken: its TIME", LayingEdgeTest::takeBack);
        c.edge(24, "its TIME; RANGE", LayingEdgeTest::takeOutOfRange);
        c.edge(24, "STATE: none is kept there", LayingEdgeTest::noneKept);
        c.edge(24, "or one of its SPOTS is BAD", LayingEdgeTest::keptOnBad);
    }

    private static void spotOfNoName() {
        c.due("spot(0) without names", new DrumCoder().spot(0), -2);
        DrumCoder x = Checks.with("a:stop;b=1;");
        c.due("spot(1)", x.spot(1), 1);
        for (int name : new int[] {2, 39, 40, -1, MIN, MAX}) {
            c.due("spot(" + name + ")", x.spot(name), -2);
        }
        DrumCoder y = Checks.with("words 20;long;long;", Checks.numbers(40));
        c.due("spot(39) of 40", y.spot(39), 39);
        c.due("spot(40) of 40", y.spot(40), -2);
    }

    private static void spotNumbers() {
        DrumCoder x = Checks.with("words 9;quick 2;quick 3;long;", "a:stop;b=1;c=2;d=3;e=4;f=5;");
        int[] due = {0, 1, 9, 10, 11, 18};
        for (int i = 0; i < due.length; i++) {
            c.due("spot(" + i + ")", x.spot(i), due[i]);
        }
        DrumCoder y = Checks.with("words 32;long;long;long;long;", "a:stop;");
        c.due("lay(0, 127)", y.lay(0, 127), 0);
        c.due("spot(0)", y.spot(0), 127);
        c.due("time(): TRACK 3, place 31", y.time(), 32);
    }

    private static void whereItWas() {
        DrumCoder x = Checks.with("a:stop;b=1;");
        c.due("lay(0, 31)", x.lay(0, 31), 0);
        c.due("lay(0, 31) again: its own", x.lay(0, 31), 31);
        c.due("spot(0)", x.spot(0), 31);
        c.due("lay(0, 0): it is free again", x.lay(0, 0), 31);
        c.due("lay(1, 31): so is that", x.lay(1, 31), 1);
        c.due("spot(0)", x.spot(0), 0);
    }

    private static void layOutOfRange() {
        c.due("lay(0, 0) without names", new DrumCoder().lay(0, 0), -2);
        DrumCoder x = Checks.with("words 8;quick 3;long;", "a:stop;b=1;");
        for (int name : new int[] {2, 40, -1, MIN, MAX}) {
            c.due("lay(" + name + ", 9)", x.lay(name, 9), -2);
        }
        for (int spot : new int[] {-1, 3, 7, 16, 17, 127, 128, MIN, MAX}) {
            c.due("lay(0, " + spot + ")", x.lay(0, spot), -2);
        }
        c.due("spot(0) stays", x.spot(0), 0);
        c.due("lay(0, 2): the last of the quick ones", x.lay(0, 2), 0);
        c.due("lay(0, 8): the first of the long ones", x.lay(0, 8), 2);
        c.due("lay(0, 15): the last of all", x.lay(0, 15), 8);
    }

    private static void layOnBad() {
        DrumCoder x = Checks.with("a:stop;b=1;");
        x.spoil(5);
        c.due("lay(0, 5)", x.lay(0, 5), -4);
        c.due("spot(0) stays", x.spot(0), 0);
        x.spoil(0);
        c.due("lay(0, 0): its own", x.lay(0, 0), -4);
        c.due("lay(1, 0): another one lies there, too", x.lay(1, 0), -4);
        c.due("lay(0, 6)", x.lay(0, 6), 0);
        c.due("lay(1, 0): none lies there", x.lay(1, 0), -4);
        c.due("lay(0, 0): it is BAD still", x.lay(0, 0), -4);
    }

    private static void layOnAnother() {
        DrumCoder x = Checks.with("a:stop;b=1;");
        c.due("lay(0, 1)", x.lay(0, 1), -4);
        c.due("lay(1, 0)", x.lay(1, 0), -4);
        c.due("spot(0) stays", x.spot(0), 0);
        c.due("spot(1) stays", x.spot(1), 1);
        x.lay(1, 16);
        c.due("lay(0, 16)", x.lay(0, 16), -4);
        c.due("lay(0, 1): it is free now", x.lay(0, 1), 0);
        // those that a search exchanged lie where they are told to lie
        DrumCoder y = Checks.with("a:load w;b:stop;w=5;");
        y.exchange();
        c.due("spot(1)", y.spot(1), 0);
        c.due("lay(0, 0)", y.lay(0, 0), -4);
        c.due("lay(1, 0)", y.lay(1, 0), 0);
    }

    private static void nameOnBad() {
        DrumCoder x = Checks.with("a:stop;b=1;");
        c.due("spoil(0)", x.spoil(0), 0);
        c.due("spoil(1)", x.spoil(1), 1);
        c.due("spoil(2)", x.spoil(2), -1);
        c.due("spoil(31)", x.spoil(31), -1);
        c.due("spot(0) stays", x.spot(0), 0);
        c.due("time() goes on", x.time(), 1);
        x.lay(0, 9);
        c.due("spoil(9): where it lies now", x.spoil(9), 0);
        c.due("spoil(0) of a new object", new DrumCoder().spoil(0), -1);
    }

    private static void spoilOutOfRange() {
        DrumCoder x = Checks.with("words 8;quick 3;long;", "a:stop;b=1;");
        for (int spot : new int[] {-1, 3, 7, 16, 127, 128, MIN, MAX}) {
            c.due("spoil(" + spot + ")", x.spoil(spot), -2);
        }
        c.due("spoil(2)", x.spoil(2), -1);
        c.due("spoil(8)", x.spoil(8), -1);
        c.due("spoil(15)", x.spoil(15), -1);
    }

    private static void spoilTwice() {
        DrumCoder x = Checks.with("a:stop;b=1;");
        x.spoil(0);
        c.due("spoil(0) again", x.spoil(0), -4);
        x.spoil(7);
        c.due("spoil(7) again", x.spoil(7), -4);
        x.mend();
        c.due("spoil(0) behind mend()", x.spoil(0), -4);
        c.due("spoil(32): not there", x.spoil(32), -2);
    }

    private static void timeWithoutNames() {
        DrumCoder x = new DrumCoder();
        c.due("time() of a new object", x.time(), -4);
        Checks.program(x, "");
        c.due("time() of a program without lines", x.time(), -4);
        Checks.program(x, "a:stop;b=1;c=2;");
        c.due("time()", x.time(), 1);
        Checks.drum(x, "words 8;quick 2;");
        c.due("time() of a program that is gone", x.time(), -4);
    }

    private static void firstWait() {
        DrumCoder x = Checks.with("a:stop;");
        for (int place = 0; place < 16; place++) {
            x.lay(0, place);
            c.due("time() at place " + place, x.time(), place + 1);
            x.lay(0, 16 + place);
            c.due("time() at place " + place + " of TRACK 1", x.time(), place + 1);
        }
    }

    private static void comesRound() {
        DrumCoder x = Checks.with("words 8;long;many 2;many 4;quick 3;", "a:halve;b:stop;");
        // a 0..1; b just comes
        c.due("b at 1 of long", x.time(), 2);
        // b has just gone by: it waits a round less 1
        int[] spots = {8, 9, 12, 13, 16, 17, 18, 19, 22, 23, 24, 25, 26};
        int[] due = {5, 2, 5, 2, 3, 2, 3, 2, 3, 2, 4, 2, 3};
        for (int i = 0; i < spots.length; i++) {
            x.lay(1, spots[i]);
            c.due("time() with b on " + spots[i], x.time(), due[i]);
        }
        DrumCoder y = Checks.with("words 8;long;long;", "a:halve;b:stop;");
        y.lay(1, 8);
        c.due("b at 0 of long: a round less 1", y.time(), 9);
        y.lay(0, 7);
        // a 7..8, b comes at 8 again
        c.due("a at 7, b at 0", y.time(), 9);
        y.lay(1, 15);
        c.due("a at 7, b at 7", y.time(), 16);
    }

    private static void waitsForWord() {
        // on quick tracks of 2: a 0..1, w 1..2, c 2..3; times takes 2 more and a bit: c at 6
        String[] ops = {"load", "add", "less", "times", "store"};
        int[] due = {3, 3, 3, 7, 3};
        int[] least = {3, 3, 3, 6, 3};
        for (int i = 0; i < ops.length; i++) {
            DrumCoder x = Checks.with("words 8;quick 2;quick 2;", "a:" + ops[i] + " w to c;w=1;c:stop;");
            c.due("time() of " + ops[i], x.time(), due[i]);
            x.run();
            c.due("ran(5) of " + ops[i], x.ran(5), least[i]);
        }
        // neg and zero don't wait for theirs, whether it is next or not: a 0..1, c at 1
        for (String op : new String[] {"neg", "zero"}) {
            DrumCoder x = Checks.with("a:" + op + " w to c;w:stop;c:stop;");
            x.lay(1, 31);
            x.lay(2, 1);
            c.due("time() of " + op, x.time(), op.equals("zero") ? 16 : 2);
            x.run();
            c.due("ran(5) of " + op, x.ran(5), 2);
        }
        // orders without a word wait for none: W is 0 there, and 0 would have to come again
        DrumCoder y = Checks.with("a:halve;b:print;c:stop;");
        c.due("time(): 0, 1, then print to 5, c at 18", y.time(), 19);
    }

    private static void bitsOfTimes() {
        // a 0..1, w 1..2, then 2 more and the bits, and b as soon as it comes: at an even time
        int[] values = {0, 1, 2, 3, 7, 255, -1, MIN, MAX};
        int[] bits = {0, 1, 1, 2, 3, 8, 32, 1, 31};
        for (int i = 0; i < values.length; i++) {
            DrumCoder x = Checks.with("words 8;quick 2;quick 2;", "a:times w to b;w=0;b:stop;");
            x.set(1, values[i]);
            int ready = 4 + bits[i];
            c.due("time() of times " + values[i], x.time(), ready + ready % 2 + 1);
        }
        // the VALUE as it is then, not as it was at first: 7 is stored over 0
        DrumCoder y = Checks.with("a:load v;b:store w;c:times w;d:stop;v=7;w=0;");
        y.run();
        c.due("ran(5)", y.ran(5), 2 + 2 + 2 + 2 + 3 + 1);
        // W is NAME 0
        DrumCoder z = Checks.with("w=7;a:times w;b:stop;");
        z.entry(1);
        z.run();
        c.due("ran(5) by NAME 0", z.ran(5), 2 + 2 + 3 + 1);
    }

    private static void printTakesMore() {
        DrumCoder x = Checks.with("words 8;quick 2;quick 2;", "a:print;b:stop;");
        // a 0..1, 3 more: 4, b at 5
        c.due("time()", x.time(), 6);
        x.run();
        c.due("ran(5)", x.ran(5), 5);
        DrumCoder late = Checks.with("words 8;quick 2;", "a:print to a;");
        c.due("time() of 2000 prints", late.time(), 2000 * 4);
    }

    private static void wrongStepTime() {
        DrumCoder x = Checks.with("a=-1;b=10202;");
        c.due("time() of a wrong one at 0", x.time(), 1);
        x.lay(0, 15);
        c.due("time() of a wrong one at 15", x.time(), 16);
        // it looks like a load, but its W is no name
        x.entry(1);
        c.due("time() of a wrong load", x.time(), 2);
        x.set(1, 40200);
        c.due("time() of a wrong times", x.time(), 2);
        x.set(1, 80200);
        c.due("time() of a wrong print", x.time(), 2);
        x.run();
        c.due("ran(4) of a wrong print", x.ran(4), 2);
        c.due("ran(5) of a wrong print", x.ran(5), 1);
    }

    private static void lateTime() {
        DrumCoder x = Checks.with("a:halve to a;");
        c.due("time()", x.time(), 1999 * 16 + 1);
        x.lay(0, 15);
        c.due("time() from 15", x.time(), 2000 * 16);
        DrumCoder y = Checks.with("words 32;long;", "a:load a to a;");
        c.due("time() of 2000 loads of itself", y.time(), 3999 * 32 + 1);
    }

    private static void placeStays() {
        DrumCoder x = Checks.with("a:load w;b:stop;w=5;");
        c.due("place(1)", x.place(1), 3);
        c.due("spot(1)", x.spot(1), 1);
        c.due("time()", x.time(), 18);
        c.due("lay(0, 3): none lies there", x.lay(0, 3), 0);
        c.due("lay(0, 1): b does", x.lay(0, 1), -4);
        x.spoil(1);
        c.due("place(1) of one on a BAD spot", x.place(1) != 1 ? 1 : 0, 1);
        c.due("spot(1)", x.spot(1), 1);
        c.due("spoil(1)", x.spoil(1), -4);
    }

    private static void freeAndNotBad() {
        // b is best at 3, then at 19, then at 4
        DrumCoder x = Checks.with("a:load w;b:stop;w=5;v=6;");
        c.due("place(1): v lies on 3", x.place(1), 19);
        x.lay(3, 31);
        c.due("place(1)", x.place(1), 3);
        x.spoil(3);
        c.due("place(1): 3 is BAD", x.place(1), 19);
        x.spoil(19);
        c.due("place(1): 19 is BAD, too", x.place(1), 4);
        // spots that are not there are none
        DrumCoder y = Checks.with("words 8;quick 2;long;", "a:stop;b=1;c=2;");
        y.lay(2, 15);
        c.due("place(2): 2 to 7 are not there", y.place(2), 8);
    }

    private static void ownPlace() {
        DrumCoder x = Checks.with("words 8;quick 2;", "a:stop;b=1;");
        c.due("place(0): none is free", x.place(0), 0);
        c.due("place(1): none is free", x.place(1), 1);
        x.spoil(1);
        c.due("place(1): its own is BAD", x.place(1), -1);
        c.due("place(0)", x.place(0), 0);
        // its own may be the best of all
        DrumCoder y = Checks.with("a:load w;b:stop;w=5;");
        y.lay(1, 3);
        c.due("place(1)", y.place(1), 3);
        y.spoil(3);
        c.due("place(1): its own is BAD", y.place(1), 19);
    }

    private static void leastPlace() {
        // v is not in the run: all places take the same, also its own
        DrumCoder x = Checks.with("a:stop;b=1;v=2;");
        x.lay(2, 20);
        c.due("place(2)", x.place(2), 2);
        x.spoil(2);
        c.due("place(2)", x.place(2), 3);
        // the least time comes ahead of the least spot
        DrumCoder y = Checks.with("a:halve;b:stop;");
        y.lay(1, 0);
        y.lay(0, 5);
        y.lay(1, 31);
        c.due("place(1): behind a, that ends at 6", y.place(1), 6);
        y.lay(0, 31 - 16);
        c.due("place(1): a ends at 16, 0 comes at once", y.place(1), 0);
    }

    private static void noPlace() {
        DrumCoder x = Checks.with("words 8;quick 3;", "a:stop;b=1;");
        x.spoil(0);
        c.due("place(0): 2 is free", x.place(0), 2);
        x.spoil(2);
        c.due("place(0): all else is taken or BAD", x.place(0), -1);
        c.due("spot(0) stays", x.spot(0), 0);
        c.due("place(1): its own", x.place(1), 1);
        x.spoil(1);
        c.due("place(1): all are BAD", x.place(1), -1);
    }

    private static void placeOfNoName() {
        c.due("place(0) without names", new DrumCoder().place(0), -2);
        DrumCoder x = Checks.with("a:stop;b=1;");
        for (int name : new int[] {2, 39, 40, -1, MIN, MAX}) {
            c.due("place(" + name + ")", x.place(name), -2);
        }
    }

    private static void mendAll() {
        DrumCoder x = Checks.with("a:stop;b=1;c=2;");
        c.due("mend() with none BAD", x.mend(), 0);
        x.spoil(9);
        c.due("mend() with none on a BAD one", x.mend(), 0);
        x.spoil(0);
        x.spoil(1);
        x.spoil(2);
        c.due("mend() with all on BAD ones", x.mend(), 3);
        // a stop is best where it comes first: at 0 of TRACK 1
        c.due("spot(0)", x.spot(0), 16);
        c.due("spot(1)", x.spot(1), 3);
        c.due("spot(2)", x.spot(2), 4);
        c.due("mend() again", x.mend(), 0);
        c.due("lay(0, 0): it is BAD still", x.lay(0, 0), -4);
    }

    private static void mendByNames() {
        // by the names, not by the spots: b lies behind c, and comes first
        DrumCoder x = Checks.with("a:stop;b=1;c=2;");
        x.lay(1, 9);
        x.spoil(9);
        x.spoil(2);
        c.due("mend()", x.mend(), 2);
        c.due("spot(0) stays", x.spot(0), 0);
        c.due("spot(1)", x.spot(1), 1);
        c.due("spot(2)", x.spot(2), 3);
        // each is laid before the next one's PLACE is sought
        DrumCoder y = Checks.with("a:load w;b:stop;w=5;");
        y.spoil(1);
        y.spoil(2);
        c.due("mend()", y.mend(), 2);
        c.due("spot(1): with w at 2 it is best at 3", y.spot(1), 3);
        c.due("spot(2): with b at 3 17 is the least", y.spot(2), 17);
    }

    private static void mendWithoutPlace() {
        DrumCoder x = Checks.with("words 8;quick 3;", "a:stop;b=1;");
        x.spoil(0);
        x.spoil(1);
        c.due("mend() with one free", x.mend(), 1);
        c.due("spot(0)", x.spot(0), 2);
        c.due("spot(1) stays", x.spot(1), 1);
        c.due("mend() with none free", x.mend(), 0);
        x.spoil(2);
        c.due("mend() with all BAD", x.mend(), 0);
        c.due("spot(0) stays", x.spot(0), 2);
        c.due("time() goes on", x.time(), 3);
    }

    private static void mendWithoutNames() {
        DrumCoder x = new DrumCoder();
        c.due("mend() of a new object", x.mend(), -4);
        x.spoil(0);
        c.due("mend() with a BAD spot and no names", x.mend(), -4);
        Checks.program(x, "");
        c.due("mend() of a program without lines", x.mend(), -4);
        Checks.program(x, "a:stop;");
        c.due("mend()", x.mend(), 0);
    }

    private static void pairsInOrder() {
        // a and b first: a 1..2, w 2..3, b 16..17. Had b and w come first, it would end at 3.
        DrumCoder x = Checks.with("a:load w;b:stop;w=5;");
        c.due("exchange()", x.exchange(), 17);
        int[] due = {1, 0, 2};
        for (int i = 0; i < due.length; i++) {
            c.due("spot(" + i + ")", x.spot(i), due[i]);
        }
        // the second one rises: of 3, 2, 1 for the stop it gets 2 first, then 1
        DrumCoder y = Checks.with("a:stop;b=1;c=2;");
        y.lay(2, 3);
        y.lay(0, 4);
        y.lay(1, 2);
        y.lay(2, 1);
        c.due("exchange()", y.exchange(), 2);
        c.due("spot(0)", y.spot(0), 1);
        c.due("spot(1)", y.spot(1), 4);
        c.due("spot(2)", y.spot(2), 2);
    }

    private static void onlyIfLess() {
        // all take the same
        DrumCoder x = Checks.with("a:stop;b=1;c=2;d=3;");
        x.lay(1, 20);
        x.lay(2, 30);
        x.lay(3, 10);
        c.due("exchange()", x.exchange(), 1);
        int[] due = {0, 20, 30, 10};
        for (int i = 0; i < due.length; i++) {
            c.due("spot(" + i + ")", x.spot(i), due[i]);
        }
        // a and b both at 5 of their tracks: no exchange, and with c at 4 one
        DrumCoder y = Checks.with("a:stop;b=1;c=2;");
        y.lay(0, 5);
        y.lay(1, 21);
        c.due("exchange()", y.exchange(), 3);
        c.due("spot(0)", y.spot(0), 2);
        c.due("spot(1)", y.spot(1), 21);
        c.due("spot(2)", y.spot(2), 5);
        c.due("exchange() of one name", Checks.with("a:stop;").exchange(), 1);
        // both at place 1, but one of them comes round quickly: 2000 times 2 rather than 2000 times 8
        DrumCoder z = Checks.with("words 8;long;quick 2;", "a:halve to a;b=1;");
        z.lay(1, 9);
        z.lay(0, 1);
        c.due("time()", z.time(), 1999 * 8 + 2);
        c.due("exchange()", z.exchange(), 1999 * 2 + 2);
        c.due("spot(0)", z.spot(0), 9);
        c.due("spot(1)", z.spot(1), 1);
    }

    private static void roundsUntilNothing() {
        // c 2..3, a 16..17; the first round exchanges a and c: 3; the second one a and b: 2; the third one none
        DrumCoder two = Checks.with("a:stop;b=1;c:halve to a;");
        two.entry(2);
        c.due("exchange() of two rounds", two.exchange(), 2);
        int[] due = {1, 2, 0};
        for (int i = 0; i < due.length; i++) {
            c.due("spot(" + i + ")", two.spot(i), due[i]);
        }
        DrumCoder x = Checks.with("a:load x;b:add y;c:store z;d:stop;x=5;y=7;z=0;");
        int time = x.exchange();
        c.due("time()", x.time(), time);
        // no pair is left that would make it less
        for (int i = 0; i < 7; i++) {
            for (int j = i + 1; j < 7; j++) {
                int one = x.spot(i);
                int other = x.spot(j);
                x.lay(i, 31);
                x.lay(j, one);
                x.lay(i, other);
                c.due("less by " + i + ", " + j, x.time() < time ? 1 : 0, 0);
                x.lay(i, 31);
                x.lay(j, other);
                x.lay(i, one);
            }
        }
        c.due("exchange() again", x.exchange(), time);
    }

    /** Lays all names, whatever lies in the way: what is there is laid aside first. */
    private static void layAll(DrumCoder x, int[] spots) {
        for (int i = 0; i < spots.length; i++) {
            for (int j = 0; j < spots.length; j++) {
                if (j != i && x.spot(j) == spots[i]) {
                    layAside(x, j, spots);
                }
            }
            x.lay(i, spots[i]);
        }
        for (int i = 0; i < spots.length; i++) {
            c.due("spot(" + i + ") as wanted", x.spot(i), spots[i]);
        }
    }

    private static void layAside(DrumCoder x, int name, int[] spots) {
        for (int spot = 0; spot < 32; spot++) {
            boolean wanted = false;
            for (int s : spots) {
                wanted |= s == spot;
            }
            if (!wanted && x.lay(name, spot) >= 0) {
                return;
            }
        }
    }

    private static void twentyRounds() {
        // found by a search, and its rounds counted by another program: the 1st to the 23rd change something
        DrumCoder x = Checks.with("a:halve to k;b:stop;c:load d to i;d:load e to f;e:load a to c;f:load g to h;"
                + "g=6;h:load i to a;i:load k to j;j:halve to b;k:load j to e;");
        x.entry(3);
        layAll(x, new int[] {12, 25, 8, 10, 3, 2, 20, 6, 23, 11, 28});
        c.due("time()", x.time(), 154);
        c.due("exchange(): 57 behind the 19th round, 56 behind the 20th, 55 behind the 21st", x.exchange(), 56);
        int[] due = {11, 23, 12, 3, 20, 6, 8, 25, 10, 2, 28};
        for (int i = 0; i < due.length; i++) {
            c.due("spot(" + i + ")", x.spot(i), due[i]);
        }
        c.due("exchange() again: three rounds more, and one that changes nothing", x.exchange(), 52);
        c.due("exchange() once more", x.exchange(), 52);
    }

    private static void exchangeWithoutBad() {
        // b is left out as the second one of a pair, and as the first one
        DrumCoder x = Checks.with("a:load w;b:stop;w=5;");
        x.spoil(1);
        c.due("exchange() without b", x.exchange(), 18);
        int[] stay = {0, 1, 2};
        for (int i = 0; i < stay.length; i++) {
            c.due("spot(" + i + ")", x.spot(i), stay[i]);
        }
        DrumCoder y = Checks.with("a:stop;b=1;c=2;");
        y.lay(0, 9);
        y.spoil(9);
        c.due("exchange() without a", y.exchange(), 10);
        c.due("spot(0)", y.spot(0), 9);
        // a's next one is left out, and the one behind it is not
        DrumCoder t = Checks.with("a:stop;b=1;c=2;");
        t.lay(0, 9);
        t.spoil(1);
        c.due("exchange() without b", t.exchange(), 3);
        c.due("spot(0)", t.spot(0), 2);
        c.due("spot(1)", t.spot(1), 1);
        DrumCoder z = Checks.with("b=1;a:stop;c=2;");
        z.entry(1);
        z.lay(1, 9);
        z.spoil(0);
        c.due("exchange() without b", z.exchange(), 3);
        c.due("spot(0)", z.spot(0), 0);
        c.due("spot(1)", z.spot(1), 2);
        z.spoil(2);
        z.spoil(9);
        c.due("exchange() with all on BAD ones", z.exchange(), 3);
    }

    private static void exchangeWithoutNames() {
        DrumCoder x = new DrumCoder();
        c.due("exchange() of a new object", x.exchange(), -4);
        Checks.program(x, "");
        c.due("exchange() of a program without lines", x.exchange(), -4);
        Checks.program(x, "a:stop;");
        x.lay(0, 4);
        c.due("exchange() of one", x.exchange(), 5);
    }

    private static void oneToSix() {
        DrumCoder x = Checks.with("a:stop;b=1;c=2;d=3;e=4;f=5;g=6;");
        c.due("best of none", x.best(0L), -2);
        c.due("best of one", x.best(1L), 1);
        c.due("best of six", x.best(63L), 1);
        c.due("best of six others", x.best(126L), 1);
        c.due("best of seven", x.best(127L), -2);
        x.lay(0, 9);
        c.due("best of one: it stays", x.best(1L), 10);
        c.due("spot(0)", x.spot(0), 9);
        c.due("best of seven: none is laid", x.best(127L), -2);
        c.due("spot(0)", x.spot(0), 9);
    }

    private static void bestOfNoNames() {
        c.due("best(1) without names", new DrumCoder().best(1L), -2);
        DrumCoder x = Checks.with("a:stop;b=1;");
        for (int bit = 2; bit < 64; bit++) {
            c.due("best of name " + bit, x.best(1L << bit), -2);
            c.due("best of 0 and name " + bit, x.best(1L << bit | 1L), -2);
        }
        c.due("best of all bits", x.best(-1L), -2);
        DrumCoder y = Checks.with("words 20;long;long;", Checks.numbers(40));
        c.due("best of name 39", y.best(1L << 39), y.time());
        c.due("best of name 40", y.best(1L << 40), -2);
        c.due("best of names 34 .. 39", y.best(63L << 34), y.time());
        c.due("best of names 35 .. 40", y.best(63L << 35), -2);
    }

    private static void bestOnBad() {
        DrumCoder x = Checks.with("a:stop;b=1;c=2;");
        x.lay(0, 9);
        x.spoil(1);
        c.due("best(b)", x.best(2L), -4);
        c.due("best(a, b)", x.best(3L), -4);
        c.due("best(a, b, c)", x.best(7L), -4);
        c.due("spot(0) stays", x.spot(0), 9);
        c.due("best(b and no name)", x.best(10L), -2);
        c.due("best(a, c)", x.best(5L), 3);
        c.due("spot(0)", x.spot(0), 2);
        c.due("spot(2)", x.spot(2), 9);
    }

    private static void bestOfAllRows() {
        // the last of 720 rows: each order lies one place ahead of the next one
        DrumCoder x = Checks.with("words 8;long;", "f:stop;e:halve to f;d:halve to e;c:halve to d;b:halve to c;a:halve to b;");
        x.entry(5);
        c.due("time() of the first row", x.time(), 5 * 8 + 1);
        c.due("best of six", x.best(63L), 6);
        for (int i = 0; i < 6; i++) {
            c.due("spot(" + i + ")", x.spot(i), 5 - i);
        }
        allRowsOf(new int[] {0, 1, 2, 3, 4, 5}, 0);
        // only those of the set are laid anew
        DrumCoder y = Checks.with("a:stop;b=1;c=2;");
        y.lay(0, 9);
        c.due("best(a, c)", y.best(5L), 3);
        c.due("spot(1) stays", y.spot(1), 1);
        c.due("best(a, b)", y.best(3L), 2);
        c.due("spot(2) stays", y.spot(2), 9);
    }

    /** Each row of six in its turn is the only best one: that in which the orders follow one another. */
    private static void allRowsOf(int[] row, int fixed) {
        if (fixed == row.length) {
            bestIs(row);
        }
        for (int i = fixed; i < row.length; i++) {
            int[] next = row.clone();
            next[fixed] = row[i];
            next[i] = row[fixed];
            allRowsOf(next, fixed + 1);
        }
    }

    private static void bestIs(int[] row) {
        DrumCoder x = Checks.with("a:stop;b=0;c=0;d=0;e=0;f=0;");
        for (int i = 0; i < 6; i++) {
            x.set(row[i], i == 5 ? 0 : 90000 + row[i + 1]);
        }
        x.entry(row[0]);
        String of = " with " + java.util.Arrays.toString(row);
        c.due("best of six" + of, x.best(63L), 6);
        for (int i = 0; i < 6; i++) {
            c.due("spot(" + row[i] + ")" + of, x.spot(row[i]), i);
        }
    }

    private static void leastRow() {
        // none of them is in the run: the spots rise with the names
        DrumCoder x = Checks.with("a:stop;b=1;c=2;d=3;e=4;f=5;g=6;");
        int[] spots = {0, 30, 6, 25, 4, 17, 2};
        for (int i = 1; i < 7; i++) {
            x.lay(i, spots[i] == i ? 31 : spots[i]);
        }
        layAll(x, spots);
        c.due("best of b .. g", x.best(126L), 1);
        int[] due = {0, 2, 4, 6, 17, 25, 30};
        for (int i = 0; i < 7; i++) {
            c.due("spot(" + i + ")", x.spot(i), due[i]);
        }
        // a at 0 or at 16 takes the same: it gets the lesser one, as the lesser name
        DrumCoder y = Checks.with("a:stop;b=1;");
        y.lay(1, 2);
        y.lay(0, 16);
        y.lay(1, 0);
        c.due("best(a, b)", y.best(3L), 1);
        c.due("spot(0)", y.spot(0), 0);
        c.due("spot(1)", y.spot(1), 16);
    }

    private static void fourSlots() {
        DrumCoder x = Checks.with("a:stop;b=1;");
        for (int slot = 0; slot < 4; slot++) {
            x.lay(0, 4 + slot);
            c.due("keep(" + slot + ")", x.keep(slot), 1);
        }
        for (int slot : new int[] {4, 5, -1, MIN, MAX}) {
            c.due("keep(" + slot + ")", x.keep(slot), -2);
        }
        for (int slot = 0; slot < 4; slot++) {
            c.due("take(" + slot + ")", x.take(slot), 5 + slot);
        }
        x.lay(0, 0);
        c.due("keep(2) over another", x.keep(2), 1);
        c.due("take(1)", x.take(1), 6);
        c.due("take(2)", x.take(2), 1);
    }

    private static void keepWithoutNames() {
        DrumCoder x = new DrumCoder();
        c.due("keep(0) of a new object", x.keep(0), -4);
        c.due("keep(3) of a new object", x.keep(3), -4);
        c.due("keep(4) of a new object", x.keep(4), -2);
        Checks.program(x, "a:stop;");
        c.due("take(0): nothing was kept", x.take(0), -4);
        c.due("keep(0)", x.keep(0), 1);
        Checks.program(x, "");
        c.due("keep(0) of a program without lines", x.keep(0), -4);
    }

    private static void takeBack() {
        DrumCoder x = Checks.with("a:stop;b=1;");
        x.keep(0);
        x.lay(0, 9);
        x.lay(1, 0);
        c.due("take(0): b lies on a's spot", x.take(0), 1);
        c.due("spot(0)", x.spot(0), 0);
        c.due("spot(1)", x.spot(1), 1);
        c.due("lay(1, 9): it is free again", x.lay(1, 9), 1);
        c.due("take(0) again: it is kept still", x.take(0), 1);
        // its time goes by the values and the entry as they are now
        x.entry(1);
        c.due("take(0) from b", x.take(0), 2);
        c.due("told(4): the entry is none of the laying", x.told(4), 1);
        // one on a BAD spot may be left by it
        x.lay(0, 9);
        x.spoil(9);
        c.due("take(0) from a BAD spot", x.take(0), 2);
        c.due("spoil(9): it is BAD still", x.spoil(9), -4);
    }

    private static void takeOutOfRange() {
        DrumCoder x = Checks.with("a:stop;b=1;");
        x.keep(0);
        x.keep(3);
        for (int slot : new int[] {4, 5, -1, MIN, MAX}) {
            c.due("take(" + slot + ")", x.take(slot), -2);
        }
        c.due("take(0)", x.take(0), 1);
        c.due("take(3)", x.take(3), 1);
        c.due("take(4) without names", new DrumCoder().take(4), -2);
    }

    private static void noneKept() {
        c.due("take(0) without names", new DrumCoder().take(0), -4);
        DrumCoder x = Checks.with("a:stop;b=1;");
        for (int slot = 0; slot < 4; slot++) {
            c.due("take(" + slot + ")", x.take(slot), -4);
        }
        x.lay(0, 5);
        x.keep(2);
        c.due("take(1)", x.take(1), -4);
        c.due("take(3)", x.take(3), -4);
        c.due("spot(0) stays", x.spot(0), 5);
        c.due("take(2)", x.take(2), 6);
    }

    private static void keptOnBad() {
        DrumCoder x = Checks.with("a:stop;b=1;");
        x.keep(0);
        x.lay(1, 9);
        x.keep(1);
        x.lay(1, 12);
        x.spoil(9);
        c.due("take(1): b's is BAD", x.take(1), -4);
        c.due("spot(1) stays", x.spot(1), 12);
        c.due("take(0): none of its spots is", x.take(0), 1);
        c.due("spot(1)", x.spot(1), 1);
        x.spoil(0);
        c.due("take(0): a's is BAD", x.take(0), -4);
        // one goes BAD that no name of the slot lies on, but one of an earlier program did
        DrumCoder y = Checks.with(Checks.numbers(5));
        Checks.program(y, "a:stop;b=1;");
        y.lay(0, 7);
        y.keep(0);
        y.spoil(0);
        y.spoil(2);
        y.spoil(4);
        c.due("take(0): none of its spots is BAD", y.take(0), 8);
        // one that lies on a BAD spot as it is kept
        c.due("keep(2)", x.keep(2), 1);
        c.due("take(2)", x.take(2), -4);
    }
}
