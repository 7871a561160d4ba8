/** Promises 1 to 7: a new object, the tape, the drum, the program, faults, what is told. */
public final class TextTest {
    private static final Checks c = new Checks("TextTest");

    public static void main(String[] args) {
        newObject();
        feeding();
        ending();
        drums();
        drumFaults();
        drumKeepsOrDropsProgram();
        programs();
        programFaults();
        programRoom();
        faultsOfLatest();
        telling();
        c.finish();
    }

    private static void newObject() {
        DrumCoder x = new DrumCoder();
        int[] due = {16, 2, 32, 0, 0, 0, 0, -1, -1, -1, 16, 16, -1, -1, -1};
        for (int i = 0; i < due.length; i++) {
            c.due("told(" + i + ") of a new object", x.told(i), due[i]);
        }
        c.due("fault(0) ahead of any", x.fault(0), 0);
        c.due("fault(1) ahead of any", x.fault(1), DrumCoder.NONE);
        c.due("spoil(31) of a new object", x.spoil(31), DrumCoder.NONE);
        c.due("spoil(32) of a new object", x.spoil(32), DrumCoder.RANGE);
    }

    private static void feeding() {
        DrumCoder x = new DrumCoder();
        for (int i = 1; i <= 60; i++) {
            c.due("feed number " + i, x.feed(0, 0, 0, 0, 0), 20 * i);
        }
        c.due("feed number 61", x.feed(0, 0, 0, 0, 0), DrumCoder.FULL);
        c.due("told(6) of a full tape", x.told(6), 1200);
        c.due("end(1181)", x.end(1181), 1181);
        c.due("feed behind 1181", x.feed(0, 0, 0, 0, 0), DrumCoder.FULL);
        c.due("end(1180)", x.end(1180), 1180);
        c.due("feed behind 1180", x.feed(0, 0, 0, 0, 0), 1200);
        // the highest byte of each int comes first, and all five come in their order
        DrumCoder y = new DrumCoder();
        y.feed(0x6162633D, 0x31323334, 0x35363738, 0x393B613D, 0x2D373B20);
        c.due("program() of abc=123456789;a=-7;", y.program(), 2);
        c.due("value(0)", y.value(0), 123456789);
        c.due("value(1)", y.value(1), -7);
    }

    private static void ending() {
        DrumCoder x = new DrumCoder();
        c.due("end(0) of no tape", x.end(0), 0);
        c.due("end(1) of no tape", x.end(1), DrumCoder.NONE);
        c.due("end(-1)", x.end(-1), DrumCoder.NONE);
        x.feed(0x613D313B, 0x623D323B, 0x633D333B, 0x643D343B, 0x653D353B);
        c.due("end(21) of 20", x.end(21), DrumCoder.NONE);
        c.due("end(20) of 20", x.end(20), 20);
        c.due("end(8) of 20", x.end(8), 8);
        c.due("end(9) of 8", x.end(9), DrumCoder.NONE);
        c.due("end(-2147483648)", x.end(Integer.MIN_VALUE), DrumCoder.NONE);
        c.due("told(6)", x.told(6), 8);
        c.due("program() of the first eight", x.program(), 2);
        c.due("told(6) behind program()", x.told(6), 0);
    }

    private static void drums() {
        c.drumTold("words 8;long;", 8);
        c.drumTold("words 32;long;long;long;long;", 128);
        c.drumTold(" \n words\n8 ; many 2 ; quick 8;quick2;many4; \n", 26);
        c.drumTold("words000000009;long;", 9);
        c.drumTold("words10;many2;", 10);
        DrumCoder x = new DrumCoder();
        c.due("drum() with all kinds", Checks.drum(x, "words 24;quick 5;many 4;many 2;long;"), 77);
        int[] due = {24, 4, 77, 0, 0, 0, 0};
        for (int i = 0; i < due.length; i++) {
            c.due("told(" + i + ")", x.told(i), due[i]);
        }
        int[] rounds = {5, 6, 12, 24, -1};
        for (int i = 0; i < rounds.length; i++) {
            c.due("told(" + (10 + i) + ")", x.told(10 + i), rounds[i]);
        }
        c.due("spoil(4) of quick 5", x.spoil(4), -1);
        c.due("spoil(5) of quick 5", x.spoil(5), -2);
        c.due("spoil(23) of quick 5", x.spoil(23), -2);
        c.due("spoil(24) of many", x.spoil(24), -1);
        c.due("spoil(95)", x.spoil(95), -1);
        c.due("spoil(96)", x.spoil(96), -2);
    }

    private static void drumFaults() {
        c.drumFault("", 1, 0);
        c.drumFault("  \n", 1, 3);
        c.drumFault("words", 1, 5);
        c.drumFault("word 8;long;", 1, 0);
        c.drumFault("wordss 8;long;", 1, 0);
        c.drumFault("words x;long;", 1, 6);
        c.drumFault("words -8;long;", 1, 6);
        c.drumFault("words 7;long;", 2, 6);
        c.drumFault("words 33;long;", 2, 6);
        c.drumFault("words 999999999;long;", 2, 6);
        c.drumFault("words 0000000008;long;", 1, 6);
        c.drumFault("words 7", 2, 6);
        c.drumFault("words 8 long;", 1, 8);
        c.drumFault("words 8;", 1, 8);
        c.drumFault("words 8;  ", 1, 10);
        c.drumFault("words 8;long", 1, 12);
        c.drumFault("words 8;long 3;", 1, 13);
        c.drumFault("words 8;long;;", 1, 13);
        c.drumFault("words 8;longer;", 1, 8);
        c.drumFault("words 8;many;", 1, 12);
        c.drumFault("words 8;many two;", 1, 13);
        c.drumFault("words 8;many 1;", 2, 13);
        c.drumFault("words 8;many 0;", 2, 13);
        c.drumFault("words 8;many 3;", 2, 13);
        c.drumFault("words 12;many 3;", 2, 14);
        c.drumFault("words 8;many 8;", 2, 13);
        c.drumFault("words 9;many 2;", 2, 13);
        c.drumFault("words 10;many 4;", 2, 14);
        c.drumFault("words 8;quick;", 1, 13);
        c.drumFault("words 8;quick 1;", 2, 14);
        c.drumFault("words 8;quick 9;", 2, 14);
        c.drumFault("words 32;quick 9;", 2, 15);
        c.drumFault("words 8;quickly 2;", 1, 8);
        c.drumFault("words 8;long;Long;", 1, 13);
        c.drumFault("words 8;long;\t", 1, 13);
        c.drumFault("words 8;long;\u0000", 1, 13);
        c.drumFault("words 8;long;\u00e1", 1, 13);
        c.drumFault("words 8;long;long;long;long;long;", 4, 28);
        c.drumFault("words 8;long;long;long;long; quick", 4, 29);
        c.drumFault("words 8;long;long;long;long;fifth;", 1, 28);
        c.drumFault("words 8;long;long;long;long;8;", 1, 28);
    }

    private static void drumKeepsOrDropsProgram() {
        DrumCoder x = Checks.with("a:load d;b:add e;c:stop;d=4;e=5;f=6;g=7;h=8;");
        x.entry(1);
        x.set(3, 44);
        x.lay(0, 20);
        x.spoil(9);
        x.keep(2);
        x.run();
        c.due("drum() with a fault", Checks.drum(x, "words 8;long"), -1);
        c.due("spot(0) behind a fault", x.spot(0), 20);
        c.due("spoil(9) behind a fault", x.spoil(9), -4);
        c.due("ran(0) behind a fault", x.ran(0), 0);
        c.due("needed() behind a fault", x.needed(), 2);
        c.due("take(2) behind a fault", x.take(2) > 0 ? 1 : 0, 1);
        c.due("drum() with as many spots", Checks.drum(x, "words 8;quick 4;quick 4;"), 8);
        c.due("told(3)", x.told(3), 8);
        c.due("told(4)", x.told(4), 1);
        c.due("value(3)", x.value(3), 44);
        int[] spots = {0, 1, 2, 3, 8, 9, 10, 11};
        for (int i = 0; i < spots.length; i++) {
            c.due("spot(" + i + ")", x.spot(i), spots[i]);
        }
        c.due("ran(0) behind a drum", x.ran(0), Checks.NO_NUMBER);
        c.due("of(0, 0) behind a drum", x.of(0, 0), Checks.NO_NUMBER);
        c.due("needed() behind a drum", x.needed(), 0);
        c.due("take(2) behind a drum", x.take(2), -4);
        c.due("spoil(9) behind a drum", x.spoil(9), 5);
        c.due("drum() with fewer spots", Checks.drum(x, "words 8;quick 4;quick 3;"), 7);
        c.due("told(3)", x.told(3), 0);
        c.due("told(4)", x.told(4), 0);
        c.due("value(0)", x.value(0), Checks.NO_NUMBER);
        c.due("spot(0)", x.spot(0), -2);
        c.due("run()", x.run(), -4);
        c.due("spoil(0) with none on it", x.spoil(0), -1);
    }

    private static void programs() {
        c.programTold("");
        c.programTold(" \n ");
        c.programTold("a:stop;", 0);
        c.programTold("a:stop;b:stop;", 1, 1);
        c.programTold("a:load b;b:add c;c:less d;d:times e;e:store f;f:neg g;g:zero h;h:print;i:halve;j:stop;",
                10101, 20202, 30303, 40404, 50505, 60606, 70707, 80008, 90009, 9);
        c.programTold("a:load b to b;b:add a to a;c:stop to a;d:print to b;e:halve to c;f:neg f to f;",
                10101, 20000, 0, 80001, 90002, 60505);
        c.programTold("a=0;b=999999999;c=-999999999;d=-0;e= - 5;f=007;", 0, 999999999, -999999999, 0, -5, 7);
        c.programTold("load=1;to:load to to to;stop:stop to stop;words:neg load to to;", 1, 10101, 2, 60001);
        c.programTold("abcdef:\nstop\nto\nabcdef\n;", 0);
        c.programTold("a:print;", 80000);
        c.programTold("a=3;b:load a;", 3, 10001);
        c.programTold("a:zero b;b=-1;", 70101, -1);
    }

    private static void programFaults() {
        c.programFault("a", 1, 1);
        c.programFault("a  ", 1, 3);
        c.programFault("7:stop;", 1, 0);
        c.programFault(":stop;", 1, 0);
        c.programFault(";", 1, 0);
        c.programFault("a;", 1, 1);
        c.programFault("a-3;", 1, 1);
        c.programFault("a:", 1, 2);
        c.programFault("a:;", 1, 2);
        c.programFault("a:halt;", 1, 2);
        c.programFault("a:stops;", 1, 2);
        c.programFault("a:7;", 1, 2);
        c.programFault("a:load;", 1, 6);
        c.programFault("a:load 5;", 1, 7);
        c.programFault("a:load a", 1, 8);
        c.programFault("a:load a b;", 1, 9);
        c.programFault("a:load a to;", 1, 11);
        c.programFault("a:load a to a a;", 1, 14);
        c.programFault("a:load abcdefg;", 1, 7);
        c.programFault("a:neg;", 1, 5);
        c.programFault("a:zero ;", 1, 7);
        c.programFault("a:stop a;", 1, 7);
        c.programFault("a:print a;", 1, 8);
        c.programFault("a:halve a;", 1, 8);
        c.programFault("a:stop to;", 1, 9);
        c.programFault("a:stop", 1, 6);
        c.programFault("a=;", 1, 2);
        c.programFault("a=-;", 1, 3);
        c.programFault("a=- -1;", 1, 4);
        c.programFault("a=1", 1, 3);
        c.programFault("a=1 2;", 1, 4);
        c.programFault("a=b;", 1, 2);
        c.programFault("a=0000000001;", 1, 2);
        c.programFault("a=1;a=", 3, 4);
        c.programFault("a=1;b=2;a:load", 3, 8);
        c.programFault("a=1;a 7", 3, 4);
        c.programFault("a=1;b?", 1, 5);
        c.programFault("a=1;?", 1, 4);
        c.programFault("a:load b to c;d:load e;", 5, 7);
        c.programFault("a:load a to c;d:load e;", 5, 12);
        c.programFault("a:stop to c;", 5, 10);
        c.programFault("a:load b;c:add d;", 5, 7);
        c.programFault("a:load b;c:add d", 1, 16);
        c.programFault("a:load b;a:stop;", 3, 9);
        c.programFault("A=1;", 1, 0);
    }

    private static void programRoom() {
        DrumCoder x = new DrumCoder();
        c.due("program() of 33 names on 32 spots", Checks.program(x, Checks.numbers(33)), -3);
        c.due("fault(0) when FULL", x.fault(0), 0);
        c.due("fault(1) when FULL", x.fault(1), -1);
        c.due("told(6) when FULL", x.told(6), 0);
        c.due("program() of 32 names on 32 spots", Checks.program(x, Checks.numbers(32)), 32);
        c.due("spot(31)", x.spot(31), 31);
        x.entry(3);
        x.lay(0, 0);
        x.keep(1);
        x.run();
        c.due("program() of 40 names on 32 spots", Checks.program(x, Checks.numbers(40)), -3);
        c.due("told(3) when FULL", x.told(3), 32);
        c.due("told(4) when FULL", x.told(4), 3);
        c.due("take(1) when FULL", x.take(1) > 0 ? 1 : 0, 1);
        c.due("ran(2) when FULL", x.ran(2), 3);
        Checks.drum(x, "words 20;long;long;");
        String forty = Checks.numbers(40);
        c.due("program() of 40 names on 40 spots", Checks.program(x, forty), 40);
        c.due("told(4) behind program()", x.told(4), 0);
        c.due("value(39)", x.value(39), 39);
        c.due("value(40)", x.value(40), Checks.NO_NUMBER);
        c.due("program() of 41", Checks.program(x, forty + "x=1;"), -1);
        c.due("fault(0) of 41", x.fault(0), 4);
        c.due("fault(1) of 41", x.fault(1), forty.length());
        c.due("program() of 41, one twice", Checks.program(x, forty + "bn=1;"), -1);
        c.due("fault(0) of 41, one twice", x.fault(0), 3);
        c.due("program() of 40 and no word", Checks.program(x, forty + "7"), -1);
        c.due("fault(0) of 40 and no word", x.fault(0), 1);
        c.due("program() of 40 and blanks", Checks.program(x, forty + "  "), 40);
        c.due("program() of 41 names, cut", Checks.program(x, forty + " x"), -1);
        c.due("fault(0) of 41 names, cut", x.fault(0), 4);
        c.due("fault(1) of 41 names, cut", x.fault(1), forty.length() + 1);
    }

    private static void faultsOfLatest() {
        DrumCoder x = new DrumCoder();
        Checks.drum(x, "words 8;lang;");
        c.due("fault(2)", x.fault(2), -1);
        c.due("fault(-1)", x.fault(-1), -1);
        c.due("fault(0) of a drum", x.fault(0), 1);
        Checks.program(x, "a=1;a=2;");
        c.due("fault(0) of the program behind it", x.fault(0), 3);
        c.due("fault(1) of the program behind it", x.fault(1), 4);
        Checks.program(x, "a=1;");
        c.due("fault(0) behind none", x.fault(0), 0);
        c.due("fault(1) behind none", x.fault(1), -1);
        c.due("fault(2) behind none", x.fault(2), -1);
        Checks.program(x, "a");
        Checks.drum(x, "words 8;long;");
        c.due("fault(0) of the drum behind it", x.fault(0), 0);
        // a run of calls that read no tape leaves it
        Checks.program(x, "a:load z;");
        x.run();
        x.time();
        c.due("fault(0) later", x.fault(0), 5);
        c.due("fault(1) later", x.fault(1), 7);
    }

    private static void telling() {
        DrumCoder x = Checks.with("words 8;many 2;long;", "a:stop;b=1;c=2;");
        x.entry(2);
        x.job(1, 1);
        x.job(1, 1);
        x.feed(0, 0, 0, 0, 0);
        int[] due = {8, 2, 16, 3, 2, 2, 20, -1, -1, -1, 4, 8, -1, -1};
        for (int i = 0; i < due.length; i++) {
            c.due("told(" + i + ")", x.told(i), due[i]);
        }
        c.due("told(-1)", x.told(-1), -1);
        c.due("told(2147483647)", x.told(Integer.MAX_VALUE), -1);
        c.due("told(-2147483648)", x.told(Integer.MIN_VALUE), -1);
        x.spoil(15);
        c.due("told(2) with a bad spot", x.told(2), 16);
        Checks.program(x, "a=1;");
        c.due("told(5) behind program()", x.told(5), 2);
        c.due("told(4) behind program()", x.told(4), 0);
    }
}
