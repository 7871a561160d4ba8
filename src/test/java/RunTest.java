/** Promises 8 to 14: values, the entry, runs and what is told of them. */
public final class RunTest {
    private static final Checks c = new Checks("RunTest");
    private static final int NO = Checks.NO_NUMBER;

    public static void main(String[] args) {
        values();
        entries();
        noNames();
        everyOp();
        wrapping();
        jumps();
        wrongOrders();
        lateRuns();
        printing();
        ordersThatChangeOrders();
        timing();
        timingOfTracks();
        timeAsItWasThen();
        reads();
        lives();
        shares();
        goneReports();
        c.finish();
    }

    private static void values() {
        DrumCoder x = Checks.with("a:stop;b=-5;");
        c.due("value(0)", x.value(0), 1);
        c.due("value(1)", x.value(1), -5);
        c.due("value(2)", x.value(2), NO);
        c.due("value(-1)", x.value(-1), NO);
        c.due("value(MAX)", x.value(Integer.MAX_VALUE), NO);
        c.due("set(0, MIN)", x.set(0, Integer.MIN_VALUE), 1);
        c.due("value(0)", x.value(0), Integer.MIN_VALUE);
        c.due("set(1, MAX)", x.set(1, Integer.MAX_VALUE), 1);
        c.due("value(1)", x.value(1), Integer.MAX_VALUE);
        c.due("set(2, 1)", x.set(2, 1), -2);
        c.due("set(-1, 1)", x.set(-1, 1), -2);
        c.due("set(40, 1)", x.set(40, 1), -2);
    }

    private static void entries() {
        DrumCoder x = Checks.with("a:print;b:stop;c:load c;d:stop;");
        c.due("entry(2)", x.entry(2), 0);
        c.due("told(4)", x.told(4), 2);
        c.due("entry(4)", x.entry(4), -2);
        c.due("entry(-1)", x.entry(-1), -2);
        c.due("told(4)", x.told(4), 2);
        c.due("run() from 2", x.run(), 2);
        c.due("ran(1) from 2", x.ran(1), 10203);
        c.due("ran(2) from 2", x.ran(2), 3);
        c.due("entry(3)", x.entry(3), 2);
        c.due("run() from 3", x.run(), 1);
        c.due("entry(0)", x.entry(0), 3);
        c.due("run() from 0", x.run(), 2);
        c.due("ran(3) from 0", x.ran(3), 1);
        c.due("ran(100): A is 0 at first", x.ran(100), 0);
    }

    private static void noNames() {
        DrumCoder x = new DrumCoder();
        c.due("run()", x.run(), -4);
        c.due("needed()", x.needed(), 0);
        for (int what = -1; what < 8; what++) {
            c.due("ran(" + what + ")", x.ran(what), NO);
            c.due("of(0, " + what + ")", x.of(0, what), NO);
        }
        Checks.program(x, "a:stop;");
        c.due("ran(0) ahead of a run", x.ran(0), NO);
        c.due("of(0, 0) ahead of a run", x.of(0, 0), NO);
        c.due("time() is no run()", x.time(), 1);
        c.due("ran(0) ahead of a run", x.ran(0), NO);
        c.due("needed() ahead of a run", x.needed(), 0);
    }

    /** A of a run of one order and stop, with x in A at first. */
    private static void result(String order, int a, int y, int due) {
        DrumCoder x = Checks.with("a:load x;b:" + order + ";c:stop;x=0;y=0;");
        x.set(3, a);
        x.set(4, y);
        c.due("run() of " + order, x.run(), 3);
        c.due("ran(0) of " + order, x.ran(0), 0);
        c.due("ran(1) of " + order + " with " + a + ", " + y, x.ran(1), due);
        c.due("ran(2) of " + order, x.ran(2), 2);
    }

    private static void everyOp() {
        result("load y", 12, 30, 30);
        result("add y", 12, 30, 42);
        result("less y", 12, 30, -18);
        result("times y", 12, 30, 360);
        result("store y", 12, 30, 12);
        result("neg y", 12, 30, 12);
        result("zero y", 12, 30, 12);
        result("print", 12, 30, 12);
        result("halve", 13, 30, 6);
        result("halve", -13, 30, -6);
        result("halve", -1, 30, 0);
        result("halve", Integer.MIN_VALUE, 30, -1073741824);
    }

    private static void wrapping() {
        result("add y", Integer.MAX_VALUE, 1, Integer.MIN_VALUE);
        result("less y", Integer.MIN_VALUE, 1, Integer.MAX_VALUE);
        result("less y", 0, Integer.MIN_VALUE, Integer.MIN_VALUE);
        result("times y", 65536, 65536, 0);
        result("times y", 123456789, 987654321, 123456789 * 987654321);
        result("times y", Integer.MIN_VALUE, -1, Integer.MIN_VALUE);
    }

    private static void goes(String op, int a, int due) {
        DrumCoder x = Checks.with("a:load x;b:" + op + " e;c:stop;x=0;e:stop;");
        x.set(3, a);
        x.run();
        c.due("ran(2) of " + op + " with " + a, x.ran(2), due);
        c.due("of(4, 1): " + op + " does not read its W", x.of(4, 1), 0);
    }

    private static void jumps() {
        goes("neg", -1, 4);
        goes("neg", 0, 2);
        goes("neg", 1, 2);
        goes("neg", Integer.MIN_VALUE, 4);
        goes("zero", 0, 4);
        goes("zero", 1, 2);
        goes("zero", -1, 2);
        DrumCoder x = Checks.with("a:load d to c;b:stop;c:stop;d=1;");
        x.run();
        c.due("ran(2) of a to", x.ran(2), 2);
    }

    private static void wrong(int value, int steps, int how) {
        DrumCoder x = Checks.with("a:load c;b=0;c=7;");
        x.set(1, value);
        c.due("run() with " + value, x.run(), steps);
        c.due("ran(0) with " + value, x.ran(0), how);
        c.due("ran(1) with " + value, x.ran(1), 7);
        c.due("ran(2) with " + value, x.ran(2), 1);
        c.due("of(1, 0) with " + value, x.of(1, 0), 1);
        c.due("ran(5) with " + value, x.ran(5), 3);
    }

    private static void wrongOrders() {
        wrong(0, 2, 0);
        wrong(202, 2, 0);
        wrong(3, 2, 1);
        wrong(300, 2, 1);
        wrong(99, 2, 1);
        wrong(9900, 2, 1);
        wrong(-1, 2, 1);
        wrong(Integer.MIN_VALUE, 2, 1);
        wrong(Integer.MAX_VALUE, 2, 1);
        wrong(100000, 2, 1);
        wrong(80003, 2, 1);
        wrong(80300, 2, 1);
        // the greatest op is an order still
        DrumCoder x = Checks.with("a:load c;b=90202;c=2;");
        c.due("run() of halve, then a stop", x.run(), 3);
        c.due("ran(0)", x.ran(0), 0);
        c.due("ran(1)", x.ran(1), 1);
        c.due("ran(2)", x.ran(2), 2);
    }

    private static String chain(String ops) {
        StringBuilder text = new StringBuilder();
        for (String op : ops.split(",")) {
            text.append(op).append(';');
        }
        return text.toString();
    }

    private static void lateRuns() {
        DrumCoder x = Checks.with("a:print to a;");
        c.due("run() for ever", x.run(), 2000);
        c.due("ran(0)", x.ran(0), 2);
        c.due("ran(2)", x.ran(2), 0);
        c.due("of(0, 0)", x.of(0, 0), 2000);
        c.due("of(0, 5)", x.of(0, 5), 1999);
        c.due("ran(3)", x.ran(3), 2000);
        c.due("ran(5)", x.ran(5), 8000);
        // n times round the loop b, c, d and then the stop: 1 + 3 n + 1 steps and what leads to it
        DrumCoder y = Checks.with(chain("a:load n,b:zero e,c:less one,d:store n to b,e:stop,n=0,one=1"));
        y.set(5, 665);
        c.due("run() of 1998 steps", y.run(), 1998);
        c.due("ran(0)", y.ran(0), 0);
        y.set(5, 666);
        c.due("run() that would take 2001", y.run(), 2000);
        c.due("ran(0)", y.ran(0), 2);
        c.due("ran(2): what would be next", y.ran(2), 4);
        c.due("ran(1)", y.ran(1), 0);
        DrumCoder z = Checks.with(chain("y:halve,a:halve,b:load n,c:zero f,d:less one,e:store n to c,f:stop,n=665,one=1"));
        c.due("run() of just 2000 steps", z.run(), 2000);
        c.due("ran(0)", z.ran(0), 0);
        c.due("ran(2)", z.ran(2), 6);
        z.set(7, 666);
        z.entry(1);
        c.due("run() late at the next of a loop", z.run(), 2000);
        c.due("ran(0)", z.ran(0), 2);
        c.due("ran(2)", z.ran(2), 3);
    }

    private static void printing() {
        DrumCoder x = Checks.with(chain("a:load n,b:print,c:less one,d:store n,e:neg f to b,f:stop,n=104,one=1"));
        x.run();
        c.due("ran(3)", x.ran(3), 105);
        c.due("ran(100)", x.ran(100), 104);
        c.due("ran(199)", x.ran(199), 5);
        c.due("ran(200)", x.ran(200), NO);
        c.due("ran(99)", x.ran(99), NO);
        c.due("ran(6)", x.ran(6), NO);
        c.due("ran(-1)", x.ran(-1), NO);
        c.due("ran(MAX)", x.ran(Integer.MAX_VALUE), NO);
        c.due("ran(MIN)", x.ran(Integer.MIN_VALUE), NO);
        x.set(6, 1);
        x.run();
        c.due("ran(3) of a shorter one", x.ran(3), 2);
        c.due("ran(101) of a shorter one", x.ran(101), 0);
        c.due("ran(102) of a shorter one", x.ran(102), NO);
    }

    private static void ordersThatChangeOrders() {
        // sums a table by adding one hundred to the order that reads it
        DrumCoder x = Checks.with(chain("a:load sum,b:add p,c:store sum,d:load b,e:add step,f:store b,"
                + "g:less last,h:neg a,i:load sum,j:stop,sum=0,p=5,q=6,r=7,step=100,last=21402"));
        int before = x.value(1);
        c.due("value(1)", before, 21102);
        c.due("run()", x.run(), 3 * 8 + 2);
        c.due("ran(0)", x.ran(0), 0);
        c.due("ran(1)", x.ran(1), 18);
        c.due("of(1, 3)", x.of(1, 3), 21402);
        c.due("of(1, 6)", x.of(1, 6), 1);
        c.due("of(10, 6)", x.of(10, 6), 1);
        c.due("of(11, 6)", x.of(11, 6), 0);
        c.due("of(0, 6)", x.of(0, 6), 0);
        c.due("of(11, 1)", x.of(11, 1), 1);
        c.due("of(13, 1)", x.of(13, 1), 1);
        c.due("of(1, 0)", x.of(1, 0), 3);
        c.due("of(1, 1)", x.of(1, 1), 6);
        c.due("value(1) is as it was", x.value(1), before);
        c.due("value(10) is as it was", x.value(10), 0);
        c.due("run() again", x.run(), 26);
        c.due("ran(1) again", x.ran(1), 18);
        // an order that is stored over by what is wrong
        DrumCoder y = Checks.with("a:load d;b:store c;c:stop;d=-3;");
        c.due("run()", y.run(), 3);
        c.due("ran(0)", y.ran(0), 1);
        c.due("ran(2)", y.ran(2), 2);
        c.due("of(2, 3)", y.of(2, 3), -3);
        // storing what is there already changes nothing
        DrumCoder z = Checks.with("a:load d;b:store e;c:stop;d=4;e=4;");
        z.run();
        c.due("of(4, 6)", z.of(4, 6), 0);
        c.due("of(4, 1)", z.of(4, 1), 1);
    }

    private static void timing() {
        // all on one long track of 16: a comes at 0, w at 3, c at 1, stop at 2
        DrumCoder x = Checks.with("a:times w to c;c:print;e:stop;w=7;");
        c.due("run()", x.run(), 3);
        // a 0..1, w 3..4, times 2 + 3 more: 9; c waits to 17..18, print: 21; e waits to 34..35
        c.due("ran(4)", x.ran(4), 35);
        c.due("ran(5)", x.ran(5), 1 + 1 + 5 + 1 + 3 + 1);
        c.due("of(0, 2)", x.of(0, 2), 0);
        c.due("of(1, 2)", x.of(1, 2), 8);
        c.due("of(2, 2)", x.of(2, 2), 13);
        c.due("of(3, 2)", x.of(3, 2), 2);
        x.set(3, -1);
        c.due("time() with 32 bits", x.time(), 1 + 2 + 1 + 34 + 11 + 1 + 3 + 13 + 1);
        x.set(3, 0);
        x.run();
        c.due("ran(5) with no bit", x.ran(5), 1 + 1 + 2 + 1 + 3 + 1);
        // neg, zero, halve and stop read no word
        DrumCoder y = Checks.with("a:neg e;b:zero d;c:stop;d:halve;e:stop;");
        y.run();
        c.due("ran(4): 0, 1, 3, 4", y.ran(4), 5);
        c.due("ran(5)", y.ran(5), 4);
        c.due("of(3, 2)", y.of(3, 2), 1);
        c.due("of(4, 2)", y.of(4, 2), 0);
        // a step that is wrong takes what its name takes, and no more
        DrumCoder z = Checks.with("a:stop;b=19900;");
        z.entry(1);
        z.run();
        c.due("ran(4) of a wrong one", z.ran(4), 2);
        c.due("ran(5) of a wrong one", z.ran(5), 1);
        c.due("of(1, 2) of a wrong one", z.of(1, 2), 1);
        c.due("of(0, 1) of a wrong one", z.of(0, 1), 0);
    }

    private static void timingOfTracks() {
        // words 12: long 0..11, many 4 (round 3) 12..23, quick 5 (round 5) 24..28
        DrumCoder x = Checks.with("words 12;long;many 4;quick 5;", "a:load w;b:add w;c:stop;w=1;");
        // a 0..1, w 3..4, b waits to 13..14, w to 15..16, c to 26..27
        c.due("time() on the long track", x.time(), 27);
        c.due("lay(3, 20)", x.lay(3, 20), 3);
        // w lies at 8 on many: at 2, 5, 8, ..: a 0..1, w 2..3, b 13..14, w 14..15, c 26..27
        x.run();
        c.due("ran(4)", x.ran(4), 27);
        c.due("of(3, 2)", x.of(3, 2), 1);
        c.due("of(1, 2)", x.of(1, 2), 10);
        c.due("lay(1, 28)", x.lay(1, 28), 1);
        // b at 4, 9, ..: a 0..1, w 2..3, b 4..5, w 5..6, c 14..15
        c.due("time()", x.time(), 15);
        c.due("lay(2, 24)", x.lay(2, 24), 2);
        // c at 0, 5, 10: 10..11
        c.due("time()", x.time(), 11);
        c.due("lay(2, 25)", x.lay(2, 25), 24);
        // c at 1, 6: 6..7
        c.due("time()", x.time(), 7);
        x.run();
        c.due("ran(4)", x.ran(4), 7);
        c.due("ran(5)", x.ran(5), 5);
    }

    private static void timeAsItWasThen() {
        DrumCoder x = Checks.with("a:load w;b:stop;w=5;");
        x.run();
        c.due("ran(4)", x.ran(4), 18);
        x.lay(1, 19);
        x.set(2, 9);
        x.entry(1);
        c.due("time()", x.time(), 4);
        c.due("ran(4) stays", x.ran(4), 18);
        c.due("ran(1) stays", x.ran(1), 5);
        c.due("ran(2) stays", x.ran(2), 1);
        c.due("of(1, 2) stays", x.of(1, 2), 14);
        c.due("of(2, 3) stays", x.of(2, 3), 5);
        c.due("of(2, 6) stays", x.of(2, 6), 0);
        x.longest(2, 0, 3, 0);
        x.exchange();
        x.place(0);
        c.due("ran(4) stays", x.ran(4), 18);
        c.due("of(0, 0) stays", x.of(0, 0), 1);
        c.due("run()", x.run(), 1);
        c.due("of(0, 0)", x.of(0, 0), 0);
    }

    private static void reads() {
        DrumCoder x = Checks.with("a:load a;b:store b;c:stop;d=3;");
        x.run();
        // b is stored over by a's order: it is read as an order once, and stored once
        c.due("of(0, 0)", x.of(0, 0), 1);
        c.due("of(0, 1)", x.of(0, 1), 1);
        c.due("of(1, 0)", x.of(1, 0), 1);
        c.due("of(1, 1)", x.of(1, 1), 1);
        c.due("of(1, 3)", x.of(1, 3), 10001);
        c.due("of(1, 6)", x.of(1, 6), 1);
        c.due("of(3, 0)", x.of(3, 0), 0);
        c.due("of(3, 3)", x.of(3, 3), 3);
        c.due("of(3, 4)", x.of(3, 4), -1);
        c.due("of(3, 5)", x.of(3, 5), -1);
        c.due("of(3, 7)", x.of(3, 7), -1);
        c.due("of(4, 0)", x.of(4, 0), NO);
        c.due("of(-1, 0)", x.of(-1, 0), NO);
        c.due("of(0, 8)", x.of(0, 8), NO);
        c.due("of(0, -1)", x.of(0, -1), NO);
    }

    private static void lives() {
        DrumCoder x = Checks.with("a:load x;b:store y;c:load z;d:add y;e:zero f;f:stop;x=1;y=2;z=3;");
        x.run();
        int[] first = {0, 1, 2, 3, 4, 5, 0, 1, 2};
        int[] last = {0, 1, 2, 3, 4, 5, 0, 3, 2};
        int[] share = {0, 0, 0, 0, 0, 0, 1, 1, 2};
        for (int i = 0; i < 9; i++) {
            c.due("of(" + i + ", 4)", x.of(i, 4), first[i]);
            c.due("of(" + i + ", 5)", x.of(i, 5), last[i]);
            c.due("of(" + i + ", 7)", x.of(i, 7), share[i]);
        }
        c.due("needed()", x.needed(), 3);
    }

    private static void shares() {
        // of those that begin in one step the lesser name comes first: x is ahead of the order that reads it
        DrumCoder x = Checks.with("x=1;y=2;a:load x;b:load y;c:add x;d:stop;");
        x.entry(2);
        x.run();
        int[] share = {0, 1, 1, 2, 1, 0};
        for (int i = 0; i < share.length; i++) {
            c.due("of(" + i + ", 7)", x.of(i, 7), share[i]);
        }
        c.due("needed()", x.needed(), 3);
        DrumCoder one = Checks.with("a:stop;b=1;");
        one.run();
        c.due("needed() of one step", one.needed(), 1);
        c.due("of(0, 7) of one step", one.of(0, 7), 0);
        // a loop keeps all its words alive
        DrumCoder loop = Checks.with(chain("a:load n,b:zero f,c:print,d:less one,e:store n to a,f:stop,n=3,one=1"));
        loop.run();
        c.due("needed() of a loop", loop.needed(), 7);
        c.due("of(5, 7)", loop.of(5, 7), 0);
    }

    private static void goneReports() {
        DrumCoder x = Checks.with("a:print;b:stop;");
        x.run();
        c.due("needed()", x.needed(), 1);
        c.due("program() that fails", Checks.program(x, "a:print"), -1);
        c.due("ran(3)", x.ran(3), 1);
        c.due("program()", Checks.program(x, "a:print;b:stop;"), 2);
        c.due("ran(3)", x.ran(3), NO);
        c.due("ran(100)", x.ran(100), NO);
        c.due("of(0, 0)", x.of(0, 0), NO);
        c.due("needed()", x.needed(), 0);
    }
}
