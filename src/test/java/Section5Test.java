/** Section 5 of the document, SETUPS AND SCRIPTS: a test for each sentence with a boundary. */
public final class Section5Test {
    private static final String TWO = Check.setupOf(2);
    private static final int END_OF_TWO = TWO.length();

    public static void main(String[] args) {
        atMost500Bytes();
        bytesOfNoToken();
        runsAreMaximal();
        gapsAnywhere();
        gapsNeeded();
        anyNumberOfDigits();
        noRepetition();
        anyNumberOfStatements();
        partsThatAreMissing();
        offsetLeftOut();
        signedOffset();
        signedReport();
        partsNotTold();
        ropeOfBuoysToldSoFar();
        strengthInRange();
        lastTimeCounts();
        buoysAndRopesThatExist();
        ropesInRange();
        actsOfTheirOwn();
        reportsInOrder();
        errorInLastCommand();
        firstWrongToken();
        positionOfEnd();
        leastCode();
        code1();
        code2();
        code3();
        code4();
        code5();
        Check.end("Section5Test");
    }

    private static void atMost500Bytes() {
        Check.edge("Section 5", "a text buffer of at most 500 bytes");
        BuoyString x = new BuoyString();
        String setup = TWO + " ".repeat(493 - END_OF_TWO) + "stock 7";
        Check.due("500 bytes", Check.type(x, setup), 500);
        Check.refused("a 501st byte", Check.STATE, () -> x.append(0x3b000000, 0, 0, 0, 0));
        Check.due("load() of a setup that ends too early", x.load() + " " + x.errorCode() + " " + x.errorPosition(),
                "-1 1 500");
        Check.type(x, TWO + " ".repeat(492 - END_OF_TWO) + "stock 7;");
        Check.due("load() of 500 bytes", x.load() + " " + x.size(7), "2 7");
        Check.type(x, "hour;" + " ".repeat(490) + "hour;");
        Check.due("play() of 500 bytes", x.play() + " " + x.size(1), "2 2");
        Check.type(x, ";".repeat(500));
        Check.due("play() of 500 semicolons", x.play() + " " + x.errorPosition(), "-1 0");
    }

    private static void bytesOfNoToken() {
        Check.edge("Section 5",
                "words (maximal runs of the letters a to z), numbers (maximal runs of the digits 0 to 9), "
                + "minus signs and semicolons");
        BuoyString x = new BuoyString();
        for (int sign = 1; sign <= 255; sign++) {
            boolean isGap = sign == 32 || sign == 10;
            boolean isLetter = sign >= 'a' && sign <= 'z';
            boolean isDigit = sign >= '0' && sign <= '9';
            x.save(0);
            Check.type(x, "hour" + (char) sign + ";");
            String answer = x.play() + " " + x.errorCode() + " " + x.errorPosition();
            x.restore(0);
            String want = isGap ? "1 0 -1" : isLetter ? "-1 1 0" : sign == '0' || sign == '1' ? "-1 1 5"
                    : isDigit ? "-1 2 4" : sign == ';' ? "-1 1 5" : "-1 1 4";
            Check.due("play() with the byte " + sign, answer, want);
        }
    }

    private static void runsAreMaximal() {
        Check.edge("Section 5", "maximal runs");
        Check.loadError("termss 5 2 2;", 1, 0);
        Check.loadError("term 5 2 2;", 1, 0);
        Check.loadError("t erms 5 2 2;", 1, 0);
        Check.loadError("terms 5 22;", 2, 8);
        Check.loadError("terms 1 000 2;", 2, 8);
        Check.loadError(TWO + "stockk 5;", 1, END_OF_TWO);
        Check.loadError("xerms 5 2 2;", 1, 0);
        Check.loadError("termx 5 2 2;", 1, 0);
        for (String word : new String[] {"xtorm 1 0 1;", "storx 1 0 1;", "xemake 0;", "remakx 0;", "xlan 1;",
                "plax 1;",
            "xaul 0;", "haux 0;", "xtock 1;", "stocx 1;", "xour;", "houx;"}) {
            Check.playError(new BuoyString(), word, 1, 0);
        }
        BuoyString x = Check.stringOf(10);
        Check.playError(x, "hour 01 5 1 5;", 3, 10);
        Check.playError(x, "hour 10 5;", 2, 5);
        Check.playError(x, "hourhour;", 1, 0);
        Check.playError(x, "hour;hou r;", 1, 5);
    }

    private static void gapsAnywhere() {
        Check.edge("Section 5",
                "Spaces (byte 32) and line feeds (byte 10) may stand ahead of tokens, between them and "
                + "behind the last one");
        BuoyString x = Check.loaded(" \n terms \n 5 \n 2\n\n2  ; \n buoy 0\n1\n9 - \n 7 ; buoy\n4 1 9;\n");
        Check.due("the setup", x.size(8) + " " + x.buoy(0, 3) + " " + x.buoy(1, 0), "5 -7 4");
        Check.due("a script", Check.play(x, "\n\n hour\n0 - \n5 1\n 7\n;\n \n"), 1);
        Check.due("its hour", x.value(0, 0) + " " + x.value(0, 1), "2 7");
        Check.due("a script of gaps alone", Check.play(x, " \n \n") + " " + x.errorCode(), "0 0");
        Check.playError(x, "\thour;", 1, 0);
        Check.playError(x, "hour;\r\n", 1, 5);
        Check.playError(x, "hour\u000b;", 1, 4);
        Check.playError(x, "hour\u00a0;", 1, 4);
    }

    private static void gapsNeeded() {
        Check.edge("Section 5", "they are needed only between two numbers and between two words");
        BuoyString x = Check.loaded("terms5 2 2;buoy0 1 9-7;buoy4 1 9;rope0 7;stock9;");
        Check.due("the setup", x.size(8) + " " + x.buoy(0, 3) + " " + x.rope(0, 1) + " " + x.size(7), "5 -7 7 9");
        Check.due("a script", Check.play(x, "hour0-5 1-6;storm1 0 1;remake0;plan1;stock3;haul0;"), 5);
        Check.due("its hour", x.value(0, 0) + " " + x.value(0, 1), "2 -6");
        Check.loadError("terms 52 2;", 1, 10);
        Check.playError(x, "hour 05;", 2, 5);
    }

    private static void anyNumberOfDigits() {
        Check.edge("Section 5", "Numbers may have any number of digits.");
        String zeros = "0".repeat(300);
        BuoyString x = Check.loaded("terms " + zeros + "5 2 2;buoy 0 1 9;buoy 1 1 0000000000000000000009;");
        Check.due("with zeros ahead of it", x.size(8) + " " + x.buoy(1, 2), "5 9");
        Check.due("a report of zeros", Check.play(x, "hour 0 " + zeros + " 1 -" + zeros.substring(150) + ";"), 1);
        Check.due("it is 0", x.value(0, 0) + " " + x.value(0, 1), "0 0");
        Check.playError(x, "hour 0 " + "9".repeat(400) + ";", 2, 7);
        // numbers that would be small ones if they wrapped around
        Check.playError(x, "hour 0 4294967296;", 2, 7);
        Check.playError(x, "hour 0 4294967301;", 2, 7);
        Check.playError(x, "hour 0 18446744073709551621;", 2, 7);
        Check.playError(x, "hour 4294967296 5;", 2, 5);
        Check.playError(x, "storm 4294967301 0 1;", 2, 6);
        Check.playError(x, "storm 5 0 4294967297;", 2, 10);
        Check.loadError("terms 4294967301 2 2;", 2, 6);
        Check.loadError(TWO + "stock 2147483648;", 2, END_OF_TWO + 6);
    }

    private static void noRepetition() {
        Check.edge("Section 5", "Braces mean any number of repetitions (none, too)");
        BuoyString x = new BuoyString();
        Check.due("a script of no command", x.play() + " " + x.errorCode() + " " + x.errorPosition(), "0 0 -1");
        Check.due("an hour of no BUOY", Check.play(x, "hour;") + " " + x.hour(0, 3), "1 0");
        Check.loadError("terms 5 2 2;", 5, 12);
        Check.playError(x, ";", 1, 0);
        Check.loadError("terms 5 2 2;;", 1, 12);
    }

    private static void anyNumberOfStatements() {
        Check.edge("Section 5", "any number of repetitions");
        BuoyString x = Check.loaded(TWO + "stock7;".repeat(66));
        Check.due("66 statements more", x.size(7), 7);
        BuoyString y = Check.stringOf(10);
        Check.due("an hour of all buoys", Check.play(y, "hour 9 1 8 1 7 1 6 1 5 1 4 1 3 1 2 1 1 1 0 1;"), 1);
        Check.due("its reports", y.hour(0, 3) + " " + y.level(0), "10 1");
        Check.due("40 commands", Check.play(y, "plan 1;".repeat(40)), 40);
    }

    private static void partsThatAreMissing() {
        Check.edge("Section 5", "\"terms\" TOLERANCE LIMIT CALM \";\"");
        String[] setups = {"terms", "terms 5", "terms 5 2", "terms 5 2 2", TWO + "buoy", TWO + "buoy 5",
                TWO + "buoy 5 1",
            TWO + "buoy 5 1 9", TWO + "buoy 5 1 9 -", TWO + "buoy 5 1 9 -4", TWO + "rope", TWO + "rope 0",
                    TWO + "rope 0 5",
            TWO + "stock", TWO + "stock 5"};
        for (String setup : setups) {
            Check.loadError(setup, 1, setup.length());
            if (!setup.matches(".*(2 2|1 9|-4|0 5|k 5)")) {
                Check.loadError(setup + ";", 1, setup.length());
            }
        }
        BuoyString x = Check.stringOf(2);
        String[] scripts = {"hour", "hour 0", "hour 0 -", "hour 0 5", "hour 0 5 1", "storm", "storm 5", "storm 5 0",
            "storm 5 0 1", "remake", "remake 0", "plan", "plan 5", "haul", "haul 0", "stock", "stock 5"};
        for (String script : scripts) {
            Check.playError(x, script, 1, script.length());
            if (!script.matches("hour|hour 0 5|storm 5 0 1|remake 0|plan 5|haul 0|stock 5")) {
                Check.playError(x, script + ";", 1, script.length());
            }
        }
    }

    private static void offsetLeftOut() {
        Check.edge("Section 5", "brackets mean that a part can be left out");
        BuoyString x = Check.loaded("terms 5 2 2;buoy 0 1 9;buoy 1 1 9 7;buoy 2 1 9;");
        Check.due("the OFFSETs", x.buoy(0, 3) + " " + x.buoy(1, 3) + " " + x.buoy(2, 3), "0 7 0");
        Check.loadError("terms 5 2 2;buoy 0 1;", 1, 20);
        Check.loadError("terms 5 2 2;buoy 0 1 9 7 7;", 1, 25);
    }

    private static void signedOffset() {
        Check.edge("Section 5", "the number behind it is 0 to 99 of an OFFSET");
        BuoyString x = Check.loaded("terms 5 2 2;buoy 0 1 9 0;buoy 1 1 9 -0;buoy 2 1 9 99;buoy 3 1 9 -99;");
        Check.due("OFFSETs", x.buoy(0, 3) + " " + x.buoy(1, 3) + " " + x.buoy(2, 3) + " " + x.buoy(3, 3),
                "0 0 99 -99");
        Check.loadError("terms 5 2 2;buoy 0 1 9 100;", 2, 23);
        Check.loadError("terms 5 2 2;buoy 0 1 9 -100;", 2, 24);
        Check.loadError("terms 5 2 2;buoy 0 1 9 --9;", 1, 24);
        Check.loadError("terms 5 2 2;buoy 0 1 9 9-;", 1, 24);
    }

    private static void signedReport() {
        Check.edge("Section 5", "0 to 9999 of a REPORT");
        BuoyString x = Check.stringOf(4);
        Check.due("reports", Check.play(x, "hour 0 0 1 -0 2 9999 3 -9999;"), 1);
        Check.due("values", x.value(0, 0) + " " + x.value(0, 1) + " " + x.value(0, 2) + " " + x.value(0, 3),
                "0 0 9999 -9999");
        Check.playError(x, "hour 0 10000;", 2, 7);
        Check.playError(x, "hour 0 -10000;", 2, 8);
        Check.playError(x, "hour 0 --1;", 1, 8);
        Check.playError(x, "hour -0 1;", 1, 5);
        Check.playError(x, "storm -1 0 1;", 1, 6);
    }

    private static void partsNotTold() {
        Check.edge("Section 5", "the STRENGTH of ropes (10 for a rope that is not told), and STOCK (0 if it is "
                + "not told)");
        BuoyString x = Check.loaded(Check.setupOf(4) + "rope 1 99;stock 5;");
        Check.due("STRENGTHs", x.rope(0, 1) + " " + x.rope(1, 1) + " " + x.rope(2, 1) + " " + x.size(7),
                "10 99 10 5");
        Check.type(x, Check.setupOf(4));
        x.load();
        Check.due("nothing of it stays", x.rope(0, 1) + " " + x.rope(1, 1) + " " + x.rope(2, 1) + " " + x.size(7),
                "10 10 10 0");
    }

    private static void ropeOfBuoysToldSoFar() {
        Check.edge("Section 5", "ROPE is 0 to the number of buoys told so far less 2.");
        Check.loadError("terms 5 2 2;rope 0 5;buoy 0 1 9;buoy 1 1 9;", 2, 17);
        Check.loadError("terms 5 2 2;buoy 0 1 9;rope 0 5;buoy 1 1 9;", 2, 28);
        BuoyString x = Check.loaded("terms 5 2 2;buoy 0 1 9;buoy 1 1 9;rope 0 5;buoy 2 1 9;rope 1 6;");
        Check.due("STRENGTHs", x.rope(0, 1) + " " + x.rope(1, 1), "5 6");
        Check.loadError("terms 5 2 2;buoy 0 1 9;buoy 1 1 9;rope 1 5;buoy 2 1 9;", 2, 39);
        Check.due("the last one of nine", Check.loaded(Check.setupOf(10) + "rope 8 7;").rope(8, 1), 7);
        Check.loadError(Check.setupOf(10) + "rope 9 7;", 2, 127);
    }

    private static void strengthInRange() {
        Check.edge("Section 5", "\"rope\" ROPE STRENGTH");
        BuoyString x = Check.loaded(Check.setupOf(3) + "rope 0 1;rope 1 99;");
        Check.due("STRENGTHs", x.rope(0, 1) + " " + x.rope(1, 1), "1 99");
        Check.loadError(TWO + "rope 0 0;", 2, END_OF_TWO + 7);
        Check.loadError(TWO + "rope 0 100;", 2, END_OF_TWO + 7);
    }

    private static void lastTimeCounts() {
        Check.edge("Section 5", "The STRENGTH of a rope, and STOCK, may be told several times; the last time "
                + "counts.");
        BuoyString x = Check.loaded("terms 5 2 2;stock 9;buoy 0 1 9;buoy 1 1 9;rope 0 5;stock 99999;rope 0 99;rope 0 3;"
                + "stock 2;");
        Check.due("the last ones", x.rope(0, 1) + " " + x.size(7) + " " + x.size(15), "3 2 2");
        BuoyString y = Check.loaded(TWO + "stock 99999;rope 0 99;rope 0 10;stock 0;");
        Check.due("as if they had not been told", y.rope(0, 1) + " " + y.size(7) + " " + y.size(15), "10 0 0");
    }

    private static void buoysAndRopesThatExist() {
        Check.edge("Section 5", "In a script BUOY and ROPE are numbers of existing buoys and ropes");
        BuoyString x = Check.stringOf(3);
        Check.due("the last ones", Check.play(x, "hour 2 5;storm 1 2 2;storm 11 0 2;stock 9;remake 1;"), 5);
        Check.playError(x, "hour 3 5;", 2, 5);
        Check.playError(x, "storm 1 3 3;", 2, 8);
        Check.playError(x, "storm 1 0 3;", 2, 10);
        Check.playError(x, "remake 2;", 2, 7);
        Check.playError(x, "haul 3;", 2, 5);
        BuoyString ten = Check.stringOf(10);
        Check.due("the last ones of ten", Check.play(ten, "hour 9 5;storm 1 8 9;stock 9;remake 8;haul 9;"), 4);
        Check.playError(ten, "hour 10 5;", 2, 5);
        Check.playError(ten, "remake 9;", 2, 7);
    }

    private static void ropesInRange() {
        Check.edge("Section 5", "ROPES is 1 to 9999");
        BuoyString x = Check.stringOf(2);
        Check.due("the least and the greatest number", Check.play(x, "stock 1;stock 9999;") + " " + x.size(7),
                "2 10000");
        Check.playError(x, "stock 0;", 2, 6);
        Check.playError(x, "stock 10000;", 2, 6);
        Check.playError(x, "plan 0;", 2, 5);
        Check.playError(x, "plan 100;", 2, 5);
        Check.playError(x, "storm 0 0 0;", 2, 6);
        Check.playError(x, "storm 100 0 0;", 2, 6);
        Check.due("the least and the greatest force", Check.play(x, "plan 1;storm 1 0 0;storm 99 0 1;plan 99;"), 3);
    }

    private static void actsOfTheirOwn() {
        Check.edge("Section 5", "The commands are done as these acts (each of them is an act of its own)");
        BuoyString x = Check.stringOf(3);
        x.setTerms(5, 1, 2);
        Check.due("play()", Check.play(x, "hour 0 0 1 0 2 50;storm 1 0 1;stock 5;remake 0;plan 1;haul 2;"), 6);
        Check.due("the acts", x.account(0) + " " + x.size(12), "10 8");
        Check.due("the string", Check.string(x) + " " + x.size(7) + " " + x.size(16) + " " + x.size(11),
                "0T-1T-2S 4 1 1");
        x.undo();
        Check.due("undo() of haul()", Check.string(x), "0T-1T-2D");
        x.undo();
        x.undo();
        Check.due("undo() of remake()", x.size(7) + " " + x.rope(0, 2), "5 1");
        x.undo();
        x.undo();
        Check.due("undo() of addStock() and storm()", x.size(7) + " " + x.size(11) + " " + x.size(1), "0 0 1");
        x.undo();
        Check.due("undo() of endHour()", x.size(1) + " " + x.buoy(2, 9), "0 50");
    }

    private static void reportsInOrder() {
        Check.edge("Section 5", "\"hour\" as report() for each BUOY in order, then endHour()");
        BuoyString x = Check.stringOf(3);
        x.report(1, 77);
        Check.play(x, "hour 2 7 0 5;");
        Check.due("with the report that there was", x.hour(0, 3) + " " + x.value(0, 1), "3 77");
        x.undo();
        x.undo();
        Check.due("undo() of the second report", x.buoy(0, 8) + " " + x.buoy(1, 8) + " " + x.buoy(2, 8), "0 1 1");
        x.undo();
        Check.due("undo() of the first one", x.buoy(0, 8) + " " + x.buoy(1, 8) + " " + x.buoy(2, 8), "0 1 0");
        Check.due("one more replaces it", Check.play(x, "hour 1 3;") + " " + x.value(0, 1) + " " + x.hour(0, 3),
                "1 3 1");
    }

    private static void errorInLastCommand() {
        Check.edge("Section 5", "A script that has an error is not done at all.");
        BuoyString x = Check.stringOf(2);
        Check.playError(x, "hour 0 5;stock 7;storm 99 0 1;x", 1, 30);
        Check.playError(x, "hour 0 5;stock 7", 1, 16);
        Check.playError(x, "hour;".repeat(40) + "hour;", 4, 200);
        Check.due("nothing was done", x.account(0) + " " + x.size(1) + " " + x.size(7), "0 0 0");
    }

    private static void firstWrongToken() {
        Check.edge("Section 5", "The text is read from the first token on, up to the first token that is wrong.");
        BuoyString x = Check.stringOf(2);
        Check.playError(x, "hour 2 5;hour 0 5 0 5;x", 2, 5);
        Check.playError(x, "storm 1 1 0;storm 0 0 0;", 3, 10);
        Check.playError(x, "storm 0 1 0;x", 2, 6);
        Check.playError(x, "x storm 0 1 0;", 1, 0);
        Check.playError(x, "hour;".repeat(40) + "hour 9 9;x", 4, 200);
        Check.loadError("terms 5 2 2;buoy 1 0 9;buoy 1 1 9;x", 2, 19);
        Check.loadError("terms 5 2 2;buoy 1 1 9;buoy 1 0 9;x", 3, 28);
        Check.loadError("terms 5 2 2;rope 9 9;", 2, 17);
    }

    private static void positionOfEnd() {
        Check.edge("Section 5",
                "The error position is the index of its first byte, or the length of the text if the text "
                + "ends too early.");
        BuoyString x = Check.stringOf(2);
        Check.playError(x, "  zzz", 1, 2);
        Check.playError(x, "hour 0 \n 99999;", 2, 9);
        Check.playError(x, "hour", 1, 4);
        Check.playError(x, "hour \n\n", 1, 7);
        Check.loadError("", 1, 0);
        Check.loadError("\n", 1, 1);
        Check.loadError("terms 5 2 2; \n ", 5, 15);
        Check.loadError(TWO + "stock", 1, END_OF_TWO + 5);
    }

    private static void leastCode() {
        Check.edge("Section 5", "The error code is the least one of these that applies to that token");
        BuoyString x = Check.stringOf(2);
        String forty = "hour;".repeat(40);
        Check.playError(x, forty + "x", 1, 200);
        Check.playError(x, forty + "terms", 1, 200);
        Check.playError(x, forty + ";", 1, 200);
        Check.playError(x, forty + "5", 1, 200);
        Check.loadError("terms 5 2 2;buoy 0 1 9", 1, 22);
        Check.loadError("terms 5 2", 1, 9);
        Check.loadError(Check.setupOf(10) + "buoyy", 1, 122);
    }

    private static void code1() {
        Check.edge("Section 5", "1: the token is not allowed there, a byte belongs to no token, or the text ends "
                + "too early.");
        BuoyString x = Check.stringOf(2);
        Check.playError(x, "terms 5 2 2;", 1, 0);
        Check.playError(x, "buoy 0 1 9;", 1, 0);
        Check.playError(x, "rope 0 5;", 1, 0);
        Check.playError(x, "hour 0 5,", 1, 8);
        Check.playError(x, "hour 0 5", 1, 8);
        Check.loadError("hour;", 1, 0);
        Check.loadError(TWO + "hour;", 1, END_OF_TWO);
        Check.loadError(TWO + "storm 1 0 1;", 1, END_OF_TWO);
        Check.loadError(TWO + "terms 5 2 2;", 1, END_OF_TWO);
        Check.loadError(TWO + "5", 1, END_OF_TWO);
        Check.loadError(TWO + "-", 1, END_OF_TWO);
        Check.loadError(TWO + "\u00ff", 1, END_OF_TWO);
    }

    private static void code2() {
        Check.edge("Section 5", "2: a number out of its range.");
        BuoyString x = Check.stringOf(2);
        Check.playError(x, "hour 2 5;", 2, 5);
        Check.playError(x, "hour 0 10000", 2, 7);
        Check.loadError("terms 1000", 2, 6);
        Check.loadError("terms 5 0", 2, 8);
        Check.loadError("terms 5 2 10", 2, 10);
        // no number of a BUOY is too small for its range, but these are
        Check.playError(x, "plan 0", 2, 5);
        Check.playError(x, "stock 00", 2, 6);
    }

    private static void code3() {
        Check.edge("Section 5",
                "3: a HOME that is not greater than that of the buoy ahead of it; the second BUOY of a "
                + "\"storm\" if it is less than the first one; a BUOY that this \"hour\" has already.");
        Check.loadError("terms 5 2 2;buoy 5 1 9;buoy 5", 3, 28);
        Check.loadError("terms 5 2 2;buoy 5 1 9;buoy 0", 3, 28);
        Check.loadError("terms 5 2 2;buoy 9999 1 9;buoy 9999", 3, 31);
        Check.due("a first HOME of 0", Check.loaded("terms 5 2 2;buoy 0 1 9;buoy 1 1 9;").buoy(0, 0), 0);
        BuoyString x = Check.stringOf(3);
        Check.playError(x, "storm 5 1 0", 3, 10);
        Check.playError(x, "storm 5 2 1;", 3, 10);
        Check.due("the same buoy twice", Check.play(x, "storm 5 2 2;"), 1);
        Check.playError(x, "hour 0 5 0", 3, 9);
        Check.playError(x, "hour 2 5 1 5 0 5 2 5;", 3, 17);
        Check.due("the same buoy in two hours", Check.play(x, "hour 0 5;hour 0 5;"), 2);
        BuoyString ten = Check.stringOf(10);
        Check.playError(ten, "hour 0 1 1 1 2 1 3 1 4 1 5 1 6 1 7 1 8 1 9 1 0", 3, 45);
        Check.playError(ten, "hour 0 1 1 1 2 1 3 1 4 1 5 1 6 1 7 1 8 1 9 1 9 1;", 3, 45);
        Check.playError(ten, "hour 0 1 1 1 2 1 3 1 4 1 5 1 6 1 7 1 8 1 9 1 10 1;", 2, 45);
    }

    private static void code4() {
        Check.edge("Section 5", "4: the word \"buoy\" of an 11th buoy; the first word of a 41st command.");
        String ten = Check.setupOf(10);
        Check.loadError(ten + "buoy", 4, 122);
        Check.loadError(ten + "stock 5; buoy 10 1 9;", 4, 131);
        Check.due("ten buoys, and more", Check.loaded(ten + "rope 8 5;stock 5;").size(0), 10);
        BuoyString x = Check.stringOf(2);
        Check.playError(x, "hour;".repeat(40) + " hour", 4, 201);
        for (String word : new String[] {"hour", "storm", "remake", "plan", "haul", "stock"}) {
            Check.playError(x, "hour;".repeat(40) + word, 4, 200);
        }
        Check.due("40 commands, and gaps", Check.play(x, "hour;".repeat(40) + " \n") + " " + x.size(1), "40 40");
    }

    private static void code5() {
        Check.edge("Section 5", "5: the end of a setup with fewer than 2 buoys.");
        Check.loadError("terms 5 2 2;", 5, 12);
        Check.loadError("terms 5 2 2;stock 5;", 5, 20);
        Check.loadError("terms 5 2 2;buoy 0 1 9;", 5, 23);
        Check.loadError("terms 5 2 2;buoy 0 1 9; \n", 5, 25);
        Check.due("two buoys", Check.stringOf(2).size(0), 2);
        BuoyString x = Check.stringOf(2);
        Check.due("the end of a script", x.play() + " " + x.errorCode(), "0 0");
    }
}
