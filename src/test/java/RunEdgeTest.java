/** The edges that promises 8 to 14 name, with the terms of values, runs and lives. */
public final class RunEdgeTest {
    private static final Checks c = new Checks("RunEdgeTest");
    private static final int NO = Checks.NO_NUMBER;
    private static final int MIN = Integer.MIN_VALUE;
    private static final int MAX = Integer.MAX_VALUE;

    public static void main(String[] args) {
        valuesAndEntry();
        runs();
        reports();
        names();
        c.finish();
    }

    private static void valuesAndEntry() {
        c.edge(8, "The VALUE of a NAME; RANGE (-2147483647)", RunEdgeTest::noValue);
        c.edge(9, "The VALUE of a NAME becomes v: 1", RunEdgeTest::anyValue);
        c.edge(9, "The VALUE of a NAME becomes v: 1; RANGE", RunEdgeTest::setRefused);
        c.edge(10, "The ENTRY: what it was", RunEdgeTest::entryBefore);
        c.edge(10, "The ENTRY: what it was; RANGE", RunEdgeTest::entryRefused);
    }

    private static void runs() {
        c.edge(11, "(the ENTRY: 0 at first)", RunEdgeTest::entryZeroAtFirst);
        c.edge(11, "with A 0", RunEdgeTest::sumZeroAtFirst);
        c.edge(11, "all VALUES as they are", RunEdgeTest::valuesAsTheyAre);
        c.edge(11, "it leaves them as they were", RunEdgeTest::valuesAsTheyWere);
        c.edge(11, "its STEPS (that which ends it, too", RunEdgeTest::endingStepCounts);
        c.edge(11, "2000 if it is LATE", RunEdgeTest::lateSteps);
        c.edge(11, "It ends LATE ahead of STEP 2001", RunEdgeTest::step2000And2001);
        c.edge(11, "STATE: no NAMES", RunEdgeTest::runWithoutNames);
        c.edge(11, "OP: over 10000 (cut), W: over 100 (cut) and modulo 100, next: modulo 100",
                RunEdgeTest::partsOfAnOrder);
        c.edge(11, "It is WRONG if the VALUE is below 0", RunEdgeTest::wrongBelowZero);
        c.edge(11, "the OP above 9", RunEdgeTest::wrongOp);
        c.edge(11, "or W or next is no NAME", RunEdgeTest::wrongNames);
        c.edge(11, "A and, less, times it (ints that wrap)", RunEdgeTest::wrapping);
        c.edge(11, "neg: if A is below 0, W is next", RunEdgeTest::negAroundZero);
        c.edge(11, "zero: if A is 0, W is next", RunEdgeTest::zeroAroundZero);
        c.edge(11, "halve: A over 2 (cut towards 0)", RunEdgeTest::halveTowardsZero);
    }

    private static void reports() {
        c.edge(12, "Of the latest run()", RunEdgeTest::latestRun);
        c.edge(12, "0: 0 stop, 1 WRONG, 2 LATE", RunEdgeTest::threeEndings);
        c.edge(12, "1: A at its end", RunEdgeTest::sumAtTheEnd);
        c.edge(12, "2: the NAME it was at (LATE: that which would be next)", RunEdgeTest::nameAtTheEnd);
        c.edge(12, "3: how many were printed", RunEdgeTest::howManyPrinted);
        c.edge(12, "4: TIME by the LAYING as it was then", RunEdgeTest::timeThen);
        c.edge(12, "LEAST TIME: without waiting", RunEdgeTest::leastTime);
        c.edge(12, "100 + i: the i-th that was printed (0 .. 99)", RunEdgeTest::hundredPrinted);
        c.edge(12, "-2147483647 when there is none such", RunEdgeTest::noSuchReport);
    }

    private static void names() {
        c.edge(13, "0: how often it was read as an ORDER", RunEdgeTest::readAsOrder);
        c.edge(13, "1: as W (stored, too)", RunEdgeTest::readAsWord);
        c.edge(13, "WAIT of a NAME: all waiting for it", RunEdgeTest::allWaiting);
        c.edge(13, "3: its VALUE at the end", RunEdgeTest::valueAtTheEnd);
        c.edge(13, "4, 5: LIFE (first, last STEP; NONE)", RunEdgeTest::firstAndLastStep);
        c.edge(13, "6: 1 if its VALUE changed", RunEdgeTest::changedOrNot);
        c.edge(13, "7: SHARE (NONE without LIFE)", RunEdgeTest::shareWithoutLife);
        c.edge(13, "by rising first STEPS (then NAMES)", RunEdgeTest::shareByFirstSteps);
        c.edge(13, "each gets the least number (from 0) that none living in its LIFE has that came ahead of it",
                RunEdgeTest::leastShare);
        c.edge(13, "7: SHARE (NONE without LIFE). -2147483647 when there is none such", RunEdgeTest::noSuchName);
        c.edge(14, "if those whose LIVES have no STEP in common may share one", RunEdgeTest::stepInCommon);
        c.edge(14, "how few are enough for all NAMES that live", RunEdgeTest::fewestAndMost);
        c.edge(14, "SPOTS NEEDED by the latest run() (0 ahead of any)", RunEdgeTest::neededAheadOfAny);
    }

    private static void noValue() {
        c.due("value(0) without names", new DrumCoder().value(0), NO);
        DrumCoder x = Checks.with("a:stop;b=-2;");
        c.due("value(0)", x.value(0), 1);
        c.due("value(1)", x.value(1), -2);
        for (int name : new int[] {2, 39, 40, 41, -1, MIN, MAX}) {
            c.due("value(" + name + ")", x.value(name), NO);
        }
        DrumCoder y = Checks.with("words 20;long;long;", Checks.numbers(40));
        c.due("value(39) of 40", y.value(39), 39);
        c.due("value(40) of 40", y.value(40), NO);
    }

    private static void anyValue() {
        DrumCoder x = Checks.with("a:stop;b=1;");
        for (int v : new int[] {MIN, NO, -1000000000, -1, 0, 1, 1000000000, MAX}) {
            c.due("set(0, " + v + ")", x.set(0, v), 1);
            c.due("value(0)", x.value(0), v);
        }
        c.due("set(1, 5)", x.set(1, 5), 1);
        c.due("value(1)", x.value(1), 5);
        c.due("value(0) stays", x.value(0), MAX);
    }

    private static void setRefused() {
        c.due("set(0, 1) without names", new DrumCoder().set(0, 1), -2);
        DrumCoder x = Checks.with("a:stop;b=1;");
        for (int name : new int[] {2, 39, 40, -1, MIN, MAX}) {
            c.due("set(" + name + ", 9)", x.set(name, 9), -2);
        }
        c.due("value(0) stays", x.value(0), 1);
        c.due("value(1) stays", x.value(1), 1);
    }

    private static void entryBefore() {
        DrumCoder x = Checks.with("a:stop;b:stop;c:stop;");
        c.due("entry(2)", x.entry(2), 0);
        c.due("entry(2) again", x.entry(2), 2);
        c.due("entry(0)", x.entry(0), 2);
        c.due("entry(1)", x.entry(1), 0);
        c.due("told(4)", x.told(4), 1);
    }

    private static void entryRefused() {
        c.due("entry(0) without names", new DrumCoder().entry(0), -2);
        DrumCoder x = Checks.with("a:stop;b:stop;");
        x.entry(1);
        for (int name : new int[] {2, 39, 40, -1, MIN, MAX}) {
            c.due("entry(" + name + ")", x.entry(name), -2);
        }
        c.due("told(4) stays", x.told(4), 1);
    }

    private static void entryZeroAtFirst() {
        DrumCoder x = Checks.with("a:stop;b:stop;");
        x.run();
        c.due("ran(2)", x.ran(2), 0);
        x.entry(1);
        x.run();
        c.due("ran(2) from 1", x.ran(2), 1);
        // a number may be the entry, too
        DrumCoder y = Checks.with("a:stop;b=-1;");
        y.entry(1);
        c.due("run() from a number", y.run(), 1);
        c.due("ran(0)", y.ran(0), 1);
    }

    private static void sumZeroAtFirst() {
        DrumCoder x = Checks.with("a:print;b:load d;c:stop;d=9;");
        for (int i = 0; i < 2; i++) {
            x.run();
            c.due("ran(100)", x.ran(100), 0);
            c.due("ran(1)", x.ran(1), 9);
        }
    }

    private static void valuesAsTheyAre() {
        DrumCoder x = Checks.with("a:load b;b:stop;c=3;");
        x.run();
        c.due("ran(1) at first", x.ran(1), 2);
        x.set(0, 10201);
        x.set(2, MIN);
        x.run();
        c.due("ran(1)", x.ran(1), MIN);
    }

    private static void valuesAsTheyWere() {
        // ends by stop, by a wrong one, and late
        for (int value : new int[] {2, -1, 90002}) {
            DrumCoder x = Checks.with("a:load d;b:store e;c:stop;d=7;e=1;");
            x.set(2, value);
            x.run();
            c.due("of(4, 3)", x.of(4, 3), 7);
            c.due("value(4)", x.value(4), 1);
            x.time();
            c.due("value(4) behind time()", x.value(4), 1);
        }
    }

    private static void endingStepCounts() {
        c.due("run() of a stop", Checks.with("a:stop;").run(), 1);
        c.due("run() of a wrong one", Checks.with("a=-1;").run(), 1);
        c.due("run() of a load and a stop", Checks.with("a:load a;b:stop;").run(), 2);
        c.due("run() of a load and a wrong one", Checks.with("a:load a;b=-1;").run(), 2);
    }

    private static void lateSteps() {
        DrumCoder x = Checks.with("a:halve;");
        c.due("run()", x.run(), 2000);
        c.due("of(0, 0)", x.of(0, 0), 2000);
    }

    /** Of 2000 STEPS if it goes in at 1, and of 2001 if it goes in at 0. */
    private static DrumCoder long2000() {
        return Checks.with("x:halve;y:halve;a:halve;b:load n;c:zero f;d:less one;e:store n to c;f:stop;n=665;one=1;");
    }

    private static void step2000And2001() {
        DrumCoder x = long2000();
        x.entry(2);
        c.due("run() of 1999", x.run(), 1999);
        c.due("ran(0)", x.ran(0), 0);
        x.entry(1);
        c.due("run() of 2000", x.run(), 2000);
        c.due("ran(0)", x.ran(0), 0);
        x.entry(0);
        c.due("run() of 2001", x.run(), 2000);
        c.due("ran(0)", x.ran(0), 2);
        x.set(7, -1);
        x.entry(1);
        c.due("run() with a wrong one at its 2000th", x.run(), 2000);
        c.due("ran(0)", x.ran(0), 1);
        x.entry(0);
        c.due("run() with a wrong one at its 2001st", x.run(), 2000);
        c.due("ran(0)", x.ran(0), 2);
    }

    private static void runWithoutNames() {
        DrumCoder x = new DrumCoder();
        c.due("run() of a new object", x.run(), -4);
        Checks.program(x, "");
        c.due("run() of a program without lines", x.run(), -4);
        Checks.program(x, "a:stop;b=1;c=2;");
        c.due("run()", x.run(), 1);
        Checks.drum(x, "words 8;quick 2;");
        c.due("run() of a program that is gone", x.run(), -4);
        c.due("ran(0)", x.ran(0), NO);
    }

    /** What A is when the second of three names has the value and the third is 2, a stop. */
    private static void second(int value, int how, int a) {
        DrumCoder x = Checks.with("a:load c;b=0;c=2;");
        x.set(1, value);
        x.run();
        c.due("ran(0) with " + value, x.ran(0), how);
        c.due("ran(1) with " + value, x.ran(1), a);
    }

    private static void partsOfAnOrder() {
        second(0, 0, 2);
        second(202, 0, 2);
        second(10002, 0, 10201);
        second(10102, 0, 10102);
        second(10202, 0, 2);
        second(20002, 0, 10203);
        second(30202, 0, 0);
        second(40202, 0, 4);
        second(90002, 0, 1);
        DrumCoder x = Checks.with("words 20;long;long;", Checks.numbers(40));
        x.set(0, 13938);
        x.set(38, 0);
        x.run();
        c.due("ran(1) of load 39", x.ran(1), 39);
        c.due("ran(2) of next 38", x.ran(2), 38);
    }

    private static void wrongBelowZero() {
        // -10000 and its like are no others' fault: their W is 0, and so is their next
        for (int value : new int[] {-1, -100, -10000, -20000, -90000, -1000000, MIN, MIN + 3648}) {
            second(value, 1, 2);
        }
        second(0, 0, 2);
    }

    private static void wrongOp() {
        second(90002, 0, 1);
        second(100000, 1, 2);
        second(100002, 1, 2);
        second(110000, 1, 2);
        second(2147480000, 1, 2);
    }

    private static void wrongNames() {
        // W, also where it is not used: stop, print, halve
        second(200, 0, 2);
        second(300, 1, 2);
        second(9900, 1, 2);
        second(80202, 0, 2);
        second(80302, 1, 2);
        second(90202, 0, 1);
        second(90302, 1, 2);
        second(10302, 1, 2);
        // next, also where it is not used: stop
        second(2, 0, 2);
        second(3, 1, 2);
        second(99, 1, 2);
        second(10003, 1, 2);
        second(70203, 1, 2);
        DrumCoder x = Checks.with("words 20;long;long;", Checks.numbers(40));
        x.set(0, 3939);
        x.run();
        c.due("ran(0) with 3939 of 40 names", x.ran(0), 0);
        x.set(0, 3940);
        x.run();
        c.due("ran(0) with 3940 of 40 names", x.ran(0), 1);
        x.set(0, 4039);
        x.run();
        c.due("ran(0) with 4039 of 40 names", x.ran(0), 1);
    }

    /** What A is behind one order, with a in A at first. */
    private static void result(String order, int a, int w, int due) {
        DrumCoder x = Checks.with("a:load x;b:" + order + ";c:stop;x=0;w=0;");
        x.set(3, a);
        x.set(4, w);
        x.run();
        c.due("ran(1) of " + order + " with " + a + ", " + w, x.ran(1), due);
    }

    private static void wrapping() {
        result("add w", MAX, 1, MIN);
        result("add w", MIN, -1, MAX);
        result("add w", MIN, MIN, 0);
        result("less w", MIN, 1, MAX);
        result("less w", 0, MIN, MIN);
        result("less w", -1, MIN, MAX);
        result("times w", 65536, 65536, 0);
        result("times w", 65536, 32768, MIN);
        result("times w", MIN, -1, MIN);
        result("times w", MAX, MAX, 1);
        result("times w", 123456789, 1000, -1097262584);
    }

    private static void goes(String op, int a, int due) {
        DrumCoder x = Checks.with("a:load x;b:" + op + " e to c;c:stop;x=0;e:stop;");
        x.set(3, a);
        c.due("run() of " + op, x.run(), 3);
        c.due("ran(2) of " + op + " with " + a, x.ran(2), due);
    }

    private static void negAroundZero() {
        goes("neg", MIN, 4);
        goes("neg", -1, 4);
        goes("neg", 0, 2);
        goes("neg", 1, 2);
        goes("neg", MAX, 2);
    }

    private static void zeroAroundZero() {
        goes("zero", MIN, 2);
        goes("zero", -1, 2);
        goes("zero", 0, 4);
        goes("zero", 1, 2);
        goes("zero", MAX, 2);
    }

    private static void halveTowardsZero() {
        result("halve", 0, 0, 0);
        result("halve", 1, 0, 0);
        result("halve", -1, 0, 0);
        result("halve", 3, 0, 1);
        result("halve", -3, 0, -1);
        result("halve", -4, 0, -2);
        result("halve", MIN, 0, -1073741824);
        result("halve", MIN + 1, 0, -1073741823);
        result("halve", MAX, 0, 1073741823);
    }

    private static void latestRun() {
        DrumCoder x = Checks.with("a:load c;b:stop;c=5;");
        x.run();
        x.set(2, 6);
        x.time();
        x.longest(2, 7, 9, 0);
        x.place(0);
        x.best(3L);
        c.due("ran(1) of the first", x.ran(1), 5);
        c.due("of(2, 3) of the first", x.of(2, 3), 5);
        x.run();
        c.due("ran(1) of the second", x.ran(1), 6);
        // nothing of the first is counted again
        c.due("of(0, 0) of the second", x.of(0, 0), 1);
        c.due("of(2, 1) of the second", x.of(2, 1), 1);
        int waiting = x.of(0, 2) + x.of(1, 2) + x.of(2, 2);
        c.due("waiting in the second", waiting, x.ran(4) - x.ran(5));
        x.entry(1);
        x.run();
        c.due("ran(1) of the third", x.ran(1), 0);
        c.due("of(2, 4) of the third", x.of(2, 4), -1);
    }

    private static void threeEndings() {
        DrumCoder x = Checks.with("a:stop;");
        x.run();
        c.due("ran(0) of a stop", x.ran(0), 0);
        x.set(0, -1);
        x.run();
        c.due("ran(0) of a wrong one", x.ran(0), 1);
        x.set(0, 80000);
        x.run();
        c.due("ran(0) of a late one", x.ran(0), 2);
    }

    private static void sumAtTheEnd() {
        DrumCoder x = Checks.with("a:stop;b:load d;c=-1;d=77;e:add f to e;f=3;");
        x.run();
        c.due("ran(1) of a stop at once", x.ran(1), 0);
        x.entry(1);
        x.run();
        c.due("ran(1) of a wrong one", x.ran(1), 77);
        x.entry(4);
        x.run();
        c.due("ran(1) of a late one", x.ran(1), 6000);
    }

    private static void nameAtTheEnd() {
        DrumCoder x = long2000();
        x.entry(1);
        x.run();
        c.due("ran(2) of a stop", x.ran(2), 7);
        x.entry(0);
        x.run();
        c.due("ran(2) of a late one: the stop would be next", x.ran(2), 7);
        x.set(8, 666);
        x.entry(1);
        x.run();
        c.due("ran(2) of a late one in its loop: 3 + 3 * 665 + 2 steps", x.ran(2), 6);
        x.set(5, -1);
        x.run();
        c.due("ran(2) of a wrong one", x.ran(2), 5);
        DrumCoder y = Checks.with("a:halve to b;b:halve to c;c:halve to a;");
        y.run();
        c.due("ran(2) of 2000 steps round three", y.ran(2), 2);
    }

    private static void howManyPrinted() {
        DrumCoder x = Checks.with("a:print to a;b:stop;");
        x.run();
        c.due("ran(3) of a late one", x.ran(3), 2000);
        x.entry(1);
        x.run();
        c.due("ran(3) of none", x.ran(3), 0);
    }

    private static void timeThen() {
        DrumCoder x = Checks.with("a:load w;b:stop;w=5;");
        x.run();
        c.due("ran(4)", x.ran(4), 18);
        x.lay(1, 19);
        c.due("time()", x.time(), 4);
        x.spoil(0);
        x.mend();
        c.due("ran(4) stays", x.ran(4), 18);
        c.due("of(1, 2) stays", x.of(1, 2), 14);
        x.take(0);
        x.run();
        c.due("ran(4) of the next", x.ran(4), x.time());
    }

    private static void leastTime() {
        DrumCoder x = Checks.with("a:stop;");
        x.lay(0, 15);
        x.run();
        c.due("ran(4) of a stop", x.ran(4), 16);
        c.due("ran(5) of a stop", x.ran(5), 1);
        x.set(0, -1);
        x.run();
        c.due("ran(5) of a wrong one", x.ran(5), 1);
        x.set(0, 10000);
        x.run();
        c.due("ran(5) of a late load", x.ran(5), 4000);
        x.set(0, 80000);
        x.run();
        c.due("ran(5) of a late print", x.ran(5), 8000);
        // times by no bit and by all
        DrumCoder y = Checks.with("a:times w;b:stop;w=0;");
        y.run();
        c.due("ran(5) of times 0", y.ran(5), 5);
        y.set(2, -1);
        y.run();
        c.due("ran(5) of times -1", y.ran(5), 37);
    }

    /** Prints n, n - 1, .. 0. */
    private static DrumCoder printer(int n) {
        DrumCoder x = Checks.with("a:load n;b:print;c:less one;d:neg e to b;e:stop;n=0;one=1;");
        x.set(5, n);
        x.run();
        return x;
    }

    private static void hundredPrinted() {
        DrumCoder x = printer(98);
        c.due("ran(3) of 99", x.ran(3), 99);
        c.due("ran(100) of 99", x.ran(100), 98);
        c.due("ran(198) of 99", x.ran(198), 0);
        c.due("ran(199) of 99", x.ran(199), NO);
        x = printer(99);
        c.due("ran(3) of 100", x.ran(3), 100);
        c.due("ran(199) of 100", x.ran(199), 0);
        c.due("ran(200) of 100", x.ran(200), NO);
        x = printer(100);
        c.due("ran(3) of 101", x.ran(3), 101);
        c.due("ran(100) of 101", x.ran(100), 100);
        c.due("ran(199) of 101", x.ran(199), 1);
        c.due("ran(200) of 101", x.ran(200), NO);
        x = printer(0);
        c.due("ran(100) of one", x.ran(100), 0);
        c.due("ran(101) of one", x.ran(101), NO);
    }

    private static void noSuchReport() {
        int[] all = {0, 1, 2, 3, 4, 5, 6, 7, 99, 100, 199, 200, -1, MIN, MAX};
        DrumCoder x = new DrumCoder();
        for (int what : all) {
            c.due("ran(" + what + ") of a new object", x.ran(what), NO);
        }
        x.run();
        Checks.program(x, "a:stop;");
        x.time();
        for (int what : all) {
            c.due("ran(" + what + ") ahead of a run", x.ran(what), NO);
        }
        x.run();
        for (int what : new int[] {6, 7, 10, 99, 100, 101, 199, 200, -1, MIN, MAX}) {
            c.due("ran(" + what + ") of a stop", x.ran(what), NO);
        }
        c.due("ran(5) of a stop", x.ran(5), 1);
    }

    private static void readAsOrder() {
        DrumCoder x = Checks.with("a:load b;b:halve to b;c=1;");
        x.run();
        c.due("of(0, 0)", x.of(0, 0), 1);
        c.due("of(1, 0)", x.of(1, 0), 1999);
        c.due("of(2, 0)", x.of(2, 0), 0);
        DrumCoder y = Checks.with("a:load a;b=-1;");
        y.run();
        c.due("of(1, 0) of a wrong one", y.of(1, 0), 1);
    }

    private static void readAsWord() {
        DrumCoder x = Checks.with("a:load w;b:add w;c:less w;d:times w;e:store w;f:neg w;g:zero g to h;h:stop;w=2;");
        x.run();
        c.due("of(8, 1): all five, and no neg", x.of(8, 1), 5);
        c.due("of(6, 1): no zero", x.of(6, 1), 0);
        c.due("of(0, 1): no stop", x.of(0, 1), 0);
        // the W of print, halve and stop is no word that is read
        DrumCoder y = Checks.with("a:print;b:halve;c:stop;");
        y.run();
        c.due("of(0, 1)", y.of(0, 1), 0);
        // a wrong one reads no W
        DrumCoder z = Checks.with("a=10002;b=1;");
        z.run();
        c.due("of(0, 0) of a wrong one", z.of(0, 0), 1);
        c.due("of(0, 1) of a wrong one", z.of(0, 1), 0);
    }

    private static void allWaiting() {
        // a 0..1, then again as W: it waits to 16
        DrumCoder x = Checks.with("a:load a;b:stop;c=1;");
        x.run();
        c.due("ran(4)", x.ran(4), 18);
        c.due("of(0, 2)", x.of(0, 2), 15);
        c.due("of(1, 2)", x.of(1, 2), 0);
        c.due("of(2, 2): not in the run", x.of(2, 2), 0);
        DrumCoder late = Checks.with("a:halve to a;");
        late.lay(0, 15);
        late.run();
        c.due("of(0, 2) of a late one", late.of(0, 2), 2000 * 15);
        c.due("ran(4) of a late one", late.ran(4), 2000 * 16);
    }

    private static void valueAtTheEnd() {
        DrumCoder x = Checks.with("a:load d;b:store c;c=0;d=-5;");
        x.run();
        c.due("of(2, 3): stored over, then it is wrong", x.of(2, 3), -5);
        c.due("of(3, 3)", x.of(3, 3), -5);
        c.due("of(0, 3)", x.of(0, 3), 10301);
        x.set(3, MIN);
        c.due("of(3, 3) stays", x.of(3, 3), -5);
        x.run();
        c.due("of(2, 3) of the next", x.of(2, 3), MIN);
    }

    private static void firstAndLastStep() {
        DrumCoder x = Checks.with("a:load w;b:halve;c:store w;d:stop;w=1;v=2;");
        x.run();
        int[] first = {0, 1, 2, 3, 0, -1};
        int[] last = {0, 1, 2, 3, 2, -1};
        for (int i = 0; i < 6; i++) {
            c.due("of(" + i + ", 4)", x.of(i, 4), first[i]);
            c.due("of(" + i + ", 5)", x.of(i, 5), last[i]);
        }
        DrumCoder late = Checks.with("a:neg b;b:halve to a;");
        late.run();
        c.due("of(0, 4) of a late one", late.of(0, 4), 0);
        c.due("of(0, 5) of a late one", late.of(0, 5), 1998);
        c.due("of(1, 5) of a late one", late.of(1, 5), 1999);
        // a wrong one is read, its W and the W of neg are not
        DrumCoder wrong = Checks.with("a:neg c;b=10209;c=1;");
        wrong.run();
        c.due("of(1, 4) of a wrong one", wrong.of(1, 4), 1);
        c.due("of(1, 5) of a wrong one", wrong.of(1, 5), 1);
        c.due("of(2, 4)", wrong.of(2, 4), -1);
    }

    private static void changedOrNot() {
        DrumCoder x = Checks.with("a:load d;b:store e;c:store f;g:stop;d=4;e=4;f=5;");
        x.run();
        c.due("of(5, 6): stored as it was", x.of(5, 6), 0);
        c.due("of(6, 6)", x.of(6, 6), 1);
        c.due("of(4, 6): read alone", x.of(4, 6), 0);
        x.set(5, 9);
        c.due("of(5, 6): a later set is none of the run", x.of(5, 6), 0);
        x.run();
        c.due("of(5, 6) of the next", x.of(5, 6), 1);
    }

    private static void shareWithoutLife() {
        DrumCoder x = Checks.with("a:neg c;b:stop;c=1;d=2;");
        x.run();
        c.due("of(0, 7)", x.of(0, 7), 0);
        c.due("of(1, 7)", x.of(1, 7), 0);
        c.due("of(2, 7)", x.of(2, 7), -1);
        c.due("of(3, 7)", x.of(3, 7), -1);
    }

    private static void shareByFirstSteps() {
        // in STEP 0 w and a begin to live, w is the lesser name; b comes by its STEP, not by its name
        DrumCoder x = Checks.with("b:add w to c;w=1;a:load w to b;c:stop;");
        x.entry(2);
        x.run();
        c.due("of(w, 7)", x.of(1, 7), 0);
        c.due("of(a, 7)", x.of(2, 7), 1);
        c.due("of(b, 7)", x.of(0, 7), 1);
        c.due("of(c, 7)", x.of(3, 7), 0);
        // the same with w behind a
        DrumCoder y = Checks.with("a:load w;b:add w;c:stop;w=1;");
        y.run();
        c.due("of(a, 7)", y.of(0, 7), 0);
        c.due("of(w, 7)", y.of(3, 7), 1);
        c.due("of(b, 7)", y.of(1, 7), 0);
    }

    private static void leastShare() {
        // x lives 0..3, y 1..2, z 3..3: z gets what y had, and d what is free below
        DrumCoder x = Checks.with("a:load x;b:load y;c:add y;d:add x;e:load z;f:stop;x=1;y=2;z=3;");
        x.run();
        int[] share = {0, 0, 0, 0, 0, 0, 1, 2, 1};
        for (int i = 0; i < share.length; i++) {
            c.due("of(" + i + ", 7)", x.of(i, 7), share[i]);
        }
        c.due("needed()", x.needed(), 3);
    }

    private static void noSuchName() {
        c.due("of(0, 0) of a new object", new DrumCoder().of(0, 0), NO);
        DrumCoder x = Checks.with("a:stop;b=1;");
        for (int what = 0; what < 8; what++) {
            c.due("of(0, " + what + ") ahead of a run", x.of(0, what), NO);
        }
        x.run();
        for (int name : new int[] {2, 39, 40, -1, MIN, MAX}) {
            c.due("of(" + name + ", 0)", x.of(name, 0), NO);
            c.due("of(" + name + ", 7)", x.of(name, 7), NO);
        }
        for (int what : new int[] {8, 9, 100, -1, MIN, MAX}) {
            c.due("of(0, " + what + ")", x.of(0, what), NO);
        }
        c.due("of(1, 7)", x.of(1, 7), -1);
    }

    private static void stepInCommon() {
        // w's last STEP is the one ahead of v's first: a with w, then b with v
        DrumCoder x = Checks.with("a:load w;b:load v;c:stop;w=1;v=2;");
        x.run();
        c.due("needed()", x.needed(), 2);
        c.due("of(w, 7)", x.of(3, 7), 1);
        c.due("of(v, 7)", x.of(4, 7), 1);
        // b is w's last STEP and its own only one
        DrumCoder y = Checks.with("a:load w;b:store w;c:stop;w=1;");
        y.run();
        c.due("of(b, 7)", y.of(1, 7), 0);
        c.due("of(w, 7)", y.of(3, 7), 1);
        c.due("needed()", y.needed(), 2);
        // an order that reads itself is one name alone
        DrumCoder z = Checks.with("a:load a;b:stop;");
        z.run();
        c.due("needed() of one that reads itself", z.needed(), 1);
        // w lives 0..1, v 1..2: both in STEP 1, with b
        DrumCoder t = Checks.with("a:load w;w:load v;c:add v;d:stop;v=1;");
        t.run();
        c.due("of(w, 5)", t.of(1, 5), 1);
        c.due("of(v, 4)", t.of(4, 4), 1);
        c.due("of(w, 7)", t.of(1, 7), 1);
        c.due("of(v, 7)", t.of(4, 7), 0);
        c.due("needed()", t.needed(), 2);
    }

    private static void fewestAndMost() {
        DrumCoder one = Checks.with("a:stop;b=1;c=2;");
        one.run();
        c.due("needed() of a stop", one.needed(), 1);
        DrumCoder wrong = Checks.with("a=-1;b=1;");
        wrong.run();
        c.due("needed() of a wrong one", wrong.needed(), 1);
        // forty orders round and round: all live all the time
        String text = Checks.numbers(40).replaceAll("=[0-9]+", ":halve").replace("bn:halve", "bn:halve to aa");
        DrumCoder forty = Checks.with("words 20;long;long;", text);
        c.due("run() of forty", forty.run(), 2000);
        c.due("needed() of forty", forty.needed(), 40);
        for (int i = 0; i < 40; i++) {
            c.due("of(" + i + ", 7) of forty", forty.of(i, 7), i);
        }
        // forty orders one behind the other: one spot is enough
        DrumCoder row = Checks.with("words 20;long;long;", text.replace("bn:halve to aa", "bn:stop"));
        c.due("run() of a row", row.run(), 40);
        c.due("needed() of a row", row.needed(), 1);
    }

    private static void neededAheadOfAny() {
        DrumCoder x = new DrumCoder();
        c.due("needed() of a new object", x.needed(), 0);
        x.run();
        c.due("needed() behind a STATE", x.needed(), 0);
        Checks.program(x, "a:load b;b:stop;");
        c.due("needed() ahead of a run", x.needed(), 0);
        x.time();
        c.due("needed() behind time()", x.needed(), 0);
        x.run();
        c.due("needed()", x.needed(), 2);
        x.entry(1);
        x.run();
        c.due("needed() of the latest", x.needed(), 1);
    }
}
