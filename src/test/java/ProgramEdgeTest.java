/** The edges that promise 5 names, with the terms of the program's text and of its values. */
public final class ProgramEdgeTest {
    private static final Checks c = new Checks("ProgramEdgeTest");
    private static final int NO = Checks.NO_NUMBER;

    public static void main(String[] args) {
        c.edge(5, "THE TAPE has at most 1200 bytes", ProgramEdgeTest::longestText);
        c.edge(5, "each call that reads it empties it, whatever it tells", ProgramEdgeTest::emptyTape);
        c.edge(5, "TOKENS with any blanks (32, 10) between", ProgramEdgeTest::blanks);
        c.edge(5, "WORDS (small letters, as many as there are, 6 at most)", ProgramEdgeTest::letters);
        c.edge(5, "N (digits, as many as there are, 9 at most)", ProgramEdgeTest::digits);
        c.edge(5, "A PROGRAM is a text = {LINE}", ProgramEdgeTest::noLine);
        c.edge(5, "W \"=\" [\"-\"] N \";\"", ProgramEdgeTest::numberLines);
        c.edge(5, "W [\"to\" W]", ProgramEdgeTest::ordersWithWord);
        c.edge(5, "(\"stop\" | \"print\" | \"halve\") [\"to\" W]", ProgramEdgeTest::ordersWithoutWord);
        c.edge(5, "is the LINE's NAME (any WORD)", ProgramEdgeTest::anyWord);
        c.edge(5, "NAMES, at most 40, numbered from 0 as their LINES come", ProgramEdgeTest::fortyNames);
        c.edge(5, "also of LINES that come later", ProgramEdgeTest::laterLines);
        c.edge(5, "N 0 .. 999999999", ProgramEdgeTest::numberBounds);
        c.edge(5, "a TOKEN's first byte", ProgramEdgeTest::firstBytes);
        c.edge(5, "the text's length at its end", ProgramEdgeTest::lengthAtEnd);
        c.edge(5, "the first come to as TOKENS are read one by one", ProgramEdgeTest::firstFault);
        c.edge(5, "of one TOKEN the least KIND", ProgramEdgeTest::leastKind);
        c.edge(5, "1 SYNTAX: a TOKEN (or byte that is none, a run that is too long) with which no text goes on",
                ProgramEdgeTest::syntax);
        c.edge(5, "3 TWICE: a NAME that a LINE has", ProgramEdgeTest::twice);
        c.edge(5, "4 ROOM: the 41st LINE at its NAME", ProgramEdgeTest::fortyFirst);
        c.edge(5, "Only when all is read: 5 UNKNOWN", ProgramEdgeTest::unknownLast);
        c.edge(5, "a W that is no NAME, the first such", ProgramEdgeTest::unknownFirstSuch);
        c.edge(5, "An ORDER's VALUE is 10000 times its OP, and 100 times the number of its W",
                ProgramEdgeTest::greatestValues);
        c.edge(5, "that behind \"to\", or else the NAME of the next LINE (of the last LINE: its own)",
                ProgramEdgeTest::nextNames);
        c.edge(5, "W is NAME 0 if it has none", ProgramEdgeTest::wordZero);
        c.edge(5, "NONE with a FAULT (it stays)", ProgramEdgeTest::staysWithAFault);
        c.edge(5, "FULL: more NAMES than SPOTS that are there (it stays)", ProgramEdgeTest::tooManyForTheDrum);
        c.edge(5, "ENTRY is 0", ProgramEdgeTest::entryZero);
        c.edge(5, "kept LAYINGS are gone", ProgramEdgeTest::layingsGone);
        c.edge(5, "and what run() told", ProgramEdgeTest::reportGone);
        c.edge(5, "NAMES lie on the first SPOTS that are there, in order", ProgramEdgeTest::firstSpots);
        c.edge(5, "none is BAD", ProgramEdgeTest::noneBad);
        c.finish();
    }

    private static void longestText() {
        c.programTold("a=1;" + " ".repeat(1192) + "b=2;", 1, 2);
        c.programTold(" ".repeat(1196) + "b=2;", 2);
        c.programFault("a=1;" + " ".repeat(1193) + "b=2", 1, 1200);
        c.programFault(" ".repeat(1199) + "+", 1, 1199);
        // one letter too many takes all the tape
        c.programFault("a".repeat(1200), 1, 0);
        c.programFault("a=" + "1".repeat(1198), 1, 2);
    }

    private static void emptyTape() {
        DrumCoder x = new DrumCoder();
        c.due("program()", Checks.program(x, "a=1;"), 1);
        c.due("told(6) behind it", x.told(6), 0);
        c.due("program() with a fault", Checks.program(x, "a=1;b+++++"), -1);
        c.due("told(6) behind a fault", x.told(6), 0);
        c.due("program() with an unknown", Checks.program(x, "a:load b;"), -1);
        c.due("told(6) behind an unknown", x.told(6), 0);
        c.due("program() that is FULL", Checks.program(x, Checks.numbers(33)), -3);
        c.due("told(6) behind FULL", x.told(6), 0);
        c.due("feed", x.feed(0, 0, 0, 0, 0), 20);
        x.run();
        x.value(0);
        x.exchange();
        c.due("told(6) behind calls that don't read it", x.told(6), 20);
        x.end(0);
        c.due("program() of nothing", x.program(), 0);
        c.due("told(6) behind nothing", x.told(6), 0);
    }

    private static void blanks() {
        c.programTold("a:load b to b;b=-5;", 10101, -5);
        c.programTold("\n a\n\n:\n load \n b\n to\nb ; b\n=\n - \n5 \n;\n", 10101, -5);
        c.programTold("a:load\nb\nto\nb;b=5;", 10101, 5);
        c.programFault("a\t=1;", 1, 1);
        c.programFault("a=1;\r\n", 1, 4);
        c.programFault("a=1;\u000b", 1, 4);
        c.programFault("a=1;\u0000", 1, 4);
        c.programFault("a=1;\u001f", 1, 4);
        c.programFault("a=1;!", 1, 4);
        c.programFault("a=1;\u0085", 1, 4);
    }

    private static void letters() {
        c.programTold("a=1;z=2;abcdef=3;zzzzzz=4;zzzzzy=5;aa=6;aaaaaa=7;aaaaab=8;", 1, 2, 3, 4, 5, 6, 7, 8);
        c.programFault("abcdefg=1;", 1, 0);
        c.programFault("a:load abcdefg;", 1, 7);
        c.programFault("a:load a to abcdefg;", 1, 12);
        c.programFault("a:stop to abcdefg;", 1, 10);
        c.programFault("a:printed;", 1, 2);
        // as many as there are
        c.programFault("a:loada;", 1, 2);
        c.programFault("a:load ato a;", 1, 11);
        c.programFault("a:stopto a;", 1, 2);
        c.programFault("a b=1;", 1, 2);
        // no small letters: capitals, and what is next to a and z
        c.programFault("aB=1;", 1, 1);
        c.programFault("Z=1;", 1, 0);
        c.programFault("a`=1;", 1, 1);
        c.programFault("{a=1;", 1, 0);
        c.programFault("\u00e4=1;", 1, 0);
    }

    private static void digits() {
        c.programTold("a=123456789;b=000000001;c=-000000009;", 123456789, 1, -9);
        c.programFault("a=1234567890;", 1, 2);
        c.programFault("a=0000000001;", 1, 2);
        c.programFault("a=-1000000000;", 1, 3);
        c.programFault("a=4294967297;", 1, 2);
        // as many as there are
        c.programFault("a=1 0;", 1, 4);
        c.programFault("a=12345 67890;", 1, 8);
        // next to 0 and 9
        c.programFault("a=/;", 1, 2);
        c.programFault("a=9:", 1, 3);
    }

    private static void noLine() {
        c.programTold("");
        c.programTold(" \n\n ");
        DrumCoder x = Checks.with("a:stop;b=1;");
        c.due("program() of nothing", Checks.program(x, ""), 0);
        c.due("told(3)", x.told(3), 0);
        c.due("value(0)", x.value(0), NO);
        c.due("run()", x.run(), -4);
        c.due("spoil(0): none lies there", x.spoil(0), -1);
        c.programTold("a:stop;", 0);
    }

    private static void numberLines() {
        c.programTold("a=5;b=-5;c=- 5;", 5, -5, -5);
        c.programFault("a=--5;", 1, 3);
        c.programFault("a=5-;", 1, 3);
        c.programFault("a=-;", 1, 3);
        c.programFault("a=;", 1, 2);
        c.programFault("a=5", 1, 3);
        c.programFault("a=b;", 1, 2);
        c.programFault("a==5;", 1, 2);
    }

    private static void ordersWithWord() {
        String[] ops = {"load", "add", "less", "times", "store", "neg", "zero"};
        for (int i = 0; i < ops.length; i++) {
            int value = 10000 * (i + 1) + 100;
            c.programTold("a:" + ops[i] + " b;b=0;", value + 1, 0);
            c.programTold("a:" + ops[i] + " b to a;b=0;", value, 0);
            int behind = 2 + ops[i].length();
            c.programFault("a:" + ops[i] + ";", 1, behind);
            c.programFault("a:" + ops[i] + " 5;", 1, behind + 1);
            c.programFault("a:" + ops[i] + " a to;", 1, behind + 5);
            c.programFault("a:" + ops[i] + " a a;", 1, behind + 3);
            c.programFault("a:" + ops[i] + " a to a to a;", 1, behind + 8);
            // "to" itself is the word that is wanted here, and no name of a line
            c.programFault("a:" + ops[i] + " to;", 5, behind + 1);
            c.programFault("a:" + ops[i] + " to a;", 1, behind + 4);
        }
    }

    private static void ordersWithoutWord() {
        String[] ops = {"stop", "print", "halve"};
        int[] values = {0, 80000, 90000};
        for (int i = 0; i < ops.length; i++) {
            c.programTold("a:" + ops[i] + ";b=0;", values[i] + 1, 0);
            c.programTold("a:" + ops[i] + " to a;b=0;", values[i], 0);
            int behind = 2 + ops[i].length();
            c.programFault("a:" + ops[i] + " a;", 1, behind + 1);
            c.programFault("a:" + ops[i] + " to;", 1, behind + 3);
            c.programFault("a:" + ops[i] + " a to a;", 1, behind + 1);
            c.programFault("a:" + ops[i], 1, behind);
        }
    }

    private static void anyWord() {
        c.programTold("to=1;load=2;stop=3;words=4;long=5;many=6;quick=7;", 1, 2, 3, 4, 5, 6, 7);
        c.programTold("to:load to to to;load:add load to to;stop:stop to stop;", 10000, 20100, 2);
        c.programTold("neg:neg neg;", 60000);
    }

    private static void fortyNames() {
        String forty = Checks.numbers(40);
        int[] due = new int[40];
        for (int i = 0; i < 40; i++) {
            due[i] = i;
        }
        c.programTold(forty, due);
        c.programTold(forty + " \n", due);
        DrumCoder x = Checks.with("words 20;long;long;", forty);
        c.due("value(40)", x.value(40), NO);
        c.due("program() of 41", Checks.program(x, forty + "x=1;"), -1);
        c.due("told(3)", x.told(3), 40);
        c.programTold("z=3;y=2;x=1;", 3, 2, 1);
    }

    private static void laterLines() {
        c.programTold("a:load c to d;b:add a to a;c=1;d:stop;", 10203, 20000, 1, 3);
        c.programTold("a:neg b;b:stop to a;", 60101, 0);
        String last = Checks.numbers(39).replaceFirst("aa=0;", "aa:load zz to zz;") + "zz=7;";
        DrumCoder x = Checks.with("words 20;long;long;", last);
        c.due("value(0), of the 40th", x.value(0), 13939);
    }

    private static void numberBounds() {
        c.programTold("a=0;b=-0;c=999999999;d=-999999999;e=1;f=-1;", 0, 0, 999999999, -999999999, 1, -1);
    }

    private static void firstBytes() {
        c.programFault("+", 1, 0);
        c.programFault(" \n +", 1, 3);
        c.programFault("a:  hold b;", 1, 4);
        c.programFault("abc=1;  abc=2;", 3, 8);
        c.programFault("abc:load   xyz;", 5, 11);
        c.programFault("a=   1234567890;", 1, 5);
        c.programFault("a=1;   abcdefg=2;", 1, 7);
    }

    private static void lengthAtEnd() {
        c.programFault("a", 1, 1);
        c.programFault("a:", 1, 2);
        c.programFault("a=", 1, 2);
        c.programFault("a=-", 1, 3);
        c.programFault("a=1", 1, 3);
        c.programFault("a:load", 1, 6);
        c.programFault("a:load a", 1, 8);
        c.programFault("a:load a to", 1, 11);
        c.programFault("a:load a to a", 1, 13);
        c.programFault("a:stop", 1, 6);
        // blanks are of the text: its length has them
        c.programFault("a \n ", 1, 4);
        c.programFault("a:load a to a \n", 1, 15);
    }

    private static void firstFault() {
        c.programFault("a=1;a=2;a=3;", 3, 4);
        c.programFault("a=1;a 7", 3, 4);
        c.programFault("a=1;b=;a=2;", 1, 6);
        c.programFault("a:load b;a=1;?", 3, 9);
        c.programFault("a:hold;a:stop;", 1, 2);
    }

    private static void leastKind() {
        String forty = Checks.numbers(40);
        int end = forty.length();
        // twice, and the 41st
        c.programFault(forty + "aa=1;", 3, end);
        c.programFault(forty + "bn=1;", 3, end);
        // no word, and where the 41st would be
        c.programFault(forty + "7=1;", 1, end);
        c.programFault(forty + ";", 1, end);
        c.programFault(forty + "abcdefg=1;", 1, end);
        c.programFault(forty + "ab", 3, end);
    }

    private static void syntax() {
        c.programFault("7=1;", 1, 0);
        c.programFault(":stop;", 1, 0);
        c.programFault("=1;", 1, 0);
        c.programFault("-", 1, 0);
        c.programFault(";", 1, 0);
        c.programFault("a=1;;", 1, 4);
        c.programFault("a;", 1, 1);
        c.programFault("a-1;", 1, 1);
        c.programFault("a 1;", 1, 2);
        c.programFault("a:;", 1, 2);
        c.programFault("a:7;", 1, 2);
        c.programFault("a:long;", 1, 2);
        c.programFault("a:to;", 1, 2);
        c.programFault("a:stop:", 1, 6);
        c.programFault("a:load -a;", 1, 7);
        // bytes that are none
        c.programFault("a+1;", 1, 1);
        c.programFault("a=1.5;", 1, 3);
        c.programFault("a:load \u00ff;", 1, 7);
        c.programFault("a=\u0080;", 1, 2);
        // runs that are too long
        c.programFault("a=1;bbbbbbb=1;", 1, 4);
        c.programFault("a=1;b=9999999999;", 1, 6);
        c.programFault("a:stoppen;", 1, 2);
    }

    private static void twice() {
        c.programFault("a=1;a=2;", 3, 4);
        c.programFault("a=1;b=2;a:stop;", 3, 8);
        c.programFault("a:stop;b=2;b=2;", 3, 11);
        c.programFault("abcdef=1;abcdef=1;", 3, 9);
        c.programFault("a:load a;a:load a;", 3, 9);
        // a name may stand as a word again and again, and like ones are others
        c.programTold("a:load a to a;b:load a to a;", 10000, 10000);
        c.programTold("ab=1;a=2;b=3;ba=4;aba=5;", 1, 2, 3, 4, 5);
    }

    private static void fortyFirst() {
        String forty = Checks.numbers(40);
        int end = forty.length();
        c.programFault(forty + "x=1;", 4, end);
        c.programFault(forty + " \nx=1;", 4, end + 2);
        c.programFault(forty + "x", 4, end);
        c.programFault(forty + "x?", 4, end);
        c.programFault(forty + "x=1;y=1;", 4, end);
        // a line with an unknown word comes first, but that is looked for only when all is read
        c.programFault(forty.replaceFirst("aa=0;", "aa:neg q;") + "x=1;", 4, end + 4);
    }

    private static void unknownLast() {
        c.programFault("a:load b;", 5, 7);
        c.programFault("a:load b;c", 1, 10);
        c.programFault("a:load b;c=1", 1, 12);
        c.programFault("a:load b;a=1;", 3, 9);
        c.programFault("a:load b", 1, 8);
        c.programTold("a:load b;b=1;", 10101, 1);
        // more names than spots, and an unknown one: there is a fault
        DrumCoder x = Checks.with("words 8;quick 2;", "a:stop;");
        c.due("program()", Checks.program(x, "a:load z;b=1;c=2;"), -1);
        c.due("fault(0)", x.fault(0), 5);
        c.due("fault(1)", x.fault(1), 7);
    }

    private static void unknownFirstSuch() {
        c.programFault("a:load b to c;d:load e;", 5, 7);
        c.programFault("a:load a to c;d:load e;", 5, 12);
        c.programFault("a:load a to a;d:load e;", 5, 21);
        c.programFault("a:stop to z;b:load y;", 5, 10);
        c.programFault("a:stop;b:print to a;c:halve to ab;", 5, 31);
        c.programFault("a=1;b:zero ba;", 5, 11);
    }

    private static void greatestValues() {
        String text = Checks.numbers(38) + "y:halve to z;z:zero z to z;";
        DrumCoder x = Checks.with("words 20;long;long;", text);
        c.due("value(38) of a halve", x.value(38), 90039);
        c.due("value(39) of a zero", x.value(39), 73939);
        c.programTold("a:stop to a;", 0);
        c.programTold("a:load a;", 10000);
    }

    private static void nextNames() {
        c.programTold("a:halve;b:halve;c:halve;", 90001, 90002, 90002);
        c.programTold("a:halve;", 90000);
        c.programTold("a:halve;b=5;", 90001, 5);
        c.programTold("a=5;b:load a;", 5, 10001);
        c.programTold("a:halve to a;b:halve to a;c:halve to b;", 90000, 90000, 90001);
        c.programTold("a:neg c;b:stop;c:zero a;", 60201, 2, 70002);
        // a "to" of an earlier program is none of a later one's
        DrumCoder x = Checks.with("a:halve to c;b:halve to a;c:halve to a;");
        Checks.program(x, "a:halve;b:halve;c:halve;");
        c.due("value(0)", x.value(0), 90001);
        c.due("value(1)", x.value(1), 90002);
        c.due("value(2)", x.value(2), 90002);
    }

    private static void wordZero() {
        c.programTold("a=7;b:stop;c:print;d:halve;", 7, 2, 80003, 90003);
        c.programTold("a=7;b:stop to b;c:print to b;d:halve to b;", 7, 1, 80001, 90001);
        // a W of an earlier program is none of a later one's
        DrumCoder x = Checks.with("a:load b;b:load b;c:neg c;");
        Checks.program(x, "a:stop;b:print;c:halve;");
        c.due("value(0)", x.value(0), 1);
        c.due("value(1)", x.value(1), 80002);
        c.due("value(2)", x.value(2), 90002);
    }

    private static void staysWithAFault() {
        DrumCoder x = Checks.with("a:load c;b:stop;c=5;");
        x.entry(1);
        x.set(2, 55);
        x.lay(0, 20);
        x.spoil(4);
        x.keep(3);
        x.run();
        int time = x.time();
        String[] texts = {"a", "a=1;b:load z;", "x=1;x=2;", "b:stop;c", Checks.numbers(40) + "x=1;"};
        for (String text : texts) {
            c.due("program() of '" + text + "'", Checks.program(x, text), -1);
            c.due("told(3)", x.told(3), 3);
            c.due("told(4)", x.told(4), 1);
            c.due("value(0)", x.value(0), 10201);
            c.due("value(2)", x.value(2), 55);
            c.due("spot(0)", x.spot(0), 20);
            c.due("spoil(4): it is BAD still", x.spoil(4), -4);
            c.due("ran(2)", x.ran(2), 1);
            c.due("take(3)", x.take(3), time);
        }
    }

    private static void tooManyForTheDrum() {
        DrumCoder x = new DrumCoder();
        c.due("program() of 33 on 32", Checks.program(x, Checks.numbers(33)), -3);
        c.due("told(3): none yet", x.told(3), 0);
        c.due("program() of 32 on 32", Checks.program(x, Checks.numbers(32)), 32);
        x.entry(3);
        x.set(4, 44);
        x.lay(0, 0);
        x.keep(0);
        x.run();
        int time = x.time();
        c.due("program() of 33 on 32", Checks.program(x, Checks.numbers(33)), -3);
        c.due("told(3)", x.told(3), 32);
        c.due("told(4)", x.told(4), 3);
        c.due("value(4)", x.value(4), 44);
        c.due("ran(2)", x.ran(2), 3);
        c.due("take(0)", x.take(0), time);
        c.due("fault(0)", x.fault(0), 0);
        DrumCoder y = new DrumCoder();
        Checks.drum(y, "words 8;quick 2;quick 2;");
        c.due("program() of 5 on 4", Checks.program(y, Checks.numbers(5)), -3);
        c.due("program() of 4 on 4", Checks.program(y, Checks.numbers(4)), 4);
        // BAD ones are there
        y.spoil(0);
        c.due("program() of 4 on 4, one of them BAD", Checks.program(y, Checks.numbers(4)), 4);
    }

    private static void entryZero() {
        DrumCoder x = Checks.with("a:stop;b:stop;");
        x.entry(1);
        c.due("program()", Checks.program(x, "a:stop;b:stop;"), 2);
        c.due("told(4)", x.told(4), 0);
        x.run();
        c.due("ran(2)", x.ran(2), 0);
        x.entry(1);
        c.due("program() of nothing", Checks.program(x, ""), 0);
        c.due("told(4)", x.told(4), 0);
    }

    private static void layingsGone() {
        DrumCoder x = Checks.with("a:stop;b=1;");
        for (int slot = 0; slot < 4; slot++) {
            x.keep(slot);
        }
        c.due("take(3)", x.take(3), 1);
        Checks.program(x, "a:stop;b=1;");
        for (int slot = 0; slot < 4; slot++) {
            c.due("take(" + slot + ")", x.take(slot), -4);
        }
    }

    private static void reportGone() {
        DrumCoder x = Checks.with("a:print;b:stop;");
        x.run();
        c.due("needed()", x.needed(), 1);
        Checks.program(x, "a:print;b:stop;");
        for (int what = 0; what < 6; what++) {
            c.due("ran(" + what + ")", x.ran(what), NO);
        }
        c.due("ran(100)", x.ran(100), NO);
        for (int what = 0; what < 8; what++) {
            c.due("of(0, " + what + ")", x.of(0, what), NO);
        }
        c.due("needed()", x.needed(), 0);
    }

    private static void firstSpots() {
        DrumCoder x = Checks.with("words 8;quick 3;long;", "a=1;b=2;");
        x.lay(0, 15);
        x.lay(1, 0);
        Checks.program(x, Checks.numbers(5));
        int[] due = {0, 1, 2, 8, 9};
        for (int i = 0; i < due.length; i++) {
            c.due("spot(" + i + ")", x.spot(i), due[i]);
        }
        c.due("lay(3, 15): none lies there now", x.lay(3, 15), 8);
        c.due("program() of all that fit", Checks.program(x, Checks.numbers(11)), 11);
        c.due("spot(10)", x.spot(10), 15);
    }

    private static void noneBad() {
        DrumCoder x = Checks.with("a:stop;b=1;");
        x.spoil(0);
        x.spoil(31);
        Checks.program(x, "a:stop;b=1;");
        c.due("lay(1, 31)", x.lay(1, 31), 1);
        c.due("mend()", x.mend(), 0);
        c.due("spoil(0)", x.spoil(0), 0);
        c.due("spoil(31)", x.spoil(31), 1);
    }
}
