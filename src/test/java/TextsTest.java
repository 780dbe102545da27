/** Promises 1 to 6: a new object, the text buffer, setups, scripts and their errors. */
public final class TextsTest {
    public static void main(String[] args) {
        newObject();
        append();
        load();
        loadReplacesEverything();
        setupErrors();
        play();
        playStops();
        scriptErrors();
        latestErrors();
        Check.end("TextsTest");
    }

    private static void newObject() {
        BuoyString x = new BuoyString();
        BuoyString y = Check.loaded("terms 20 3 2;buoy 0 1 9;buoy 100 1 9;");
        Check.due("a new object", Check.everything(x), Check.everything(y));
        Check.due("its terms", x.size(8) + " " + x.size(9) + " " + x.size(10), "20 3 2");
        Check.due("its stock", x.size(7), 0);
        Check.due("its rope", x.rope(0, 0) + " " + x.rope(0, 1), "100 10");
        Check.due("its text buffer", x.append(0, 0, 0, 0, 0), 0);
        Check.refused("its output(0)", Check.INDEX, () -> x.output(0));
        Check.refused("its restore(0)", Check.STATE, () -> x.restore(0));
        Check.refused("its restore(1)", Check.STATE, () -> x.restore(1));
        Check.refused("its undo()", Check.STATE, () -> x.undo());
        Check.due("its error", x.errorCode() + " " + x.errorPosition(), "0 -1");
        Check.due("NONE", BuoyString.NONE, -1);
    }

    private static void append() {
        BuoyString x = new BuoyString();
        // "hour" "\0;\0\0" "" "" "h\0\0h"
        Check.due("append(hour...)", x.append(0x686f7572, 0x003b0000, 0, 0, 0x68000068), 7);
        Check.due("append(0s)", x.append(0, 0, 0, 0, 0), 7);
        Check.due("play() of hour;hh", x.play(), -1);
        Check.due("the wrong token hh", x.errorPosition(), 5);
        // the bytes of all five numbers, the most significant one first
        x.append(0x686f7572, 0x20302039, 0x3b686f75, 0x72203120, 0x383b2020);
        Check.due("play() of hour 0 9;hour 1 8;", x.play(), 2);
        Check.due("its hours", Check.hours(x), "0=9 1=8");

        BuoyString full = new BuoyString();
        int length = 0;
        for (int i = 0; i < 25; i++) {
            length = full.append(0x20202020, 0x20202020, 0x20202020, 0x20202020, 0x20202020);
        }
        Check.due("the length of 500 spaces", length, 500);
        Check.refused("a 501st byte", Check.STATE, () -> full.append(0, 0, 0x20, 0, 0));
        Check.due("append(0s) to a full buffer", full.append(0, 0, 0, 0, 0), 500);
        Check.due("play() of 500 spaces", full.play() + " " + full.errorCode(), "0 0");

        BuoyString near = new BuoyString();
        Check.due("499 bytes", Check.type(near, " ".repeat(499)), 499);
        Check.refused("two bytes more", Check.STATE, () -> near.append(0, 0, 0, 0, 0x3b3b));
        Check.refused("two bytes in two numbers", Check.STATE, () -> near.append(0x3b00, 0, 0, 0x3b, 0));
        Check.refused("two bytes in two numbers", Check.STATE, () -> near.append(0, 0x3b0000, 0x3b, 0, 0));
        Check.refused("two bytes in two numbers", Check.STATE, () -> near.append(0, 0x3b3b, 0, 0, 0));
        Check.refused("two bytes in two numbers", Check.STATE, () -> near.append(0, 0, 0, 0x3b00003b, 0));
        Check.due("nothing was appended", near.append(0, 0, 0, 0, 0), 499);
        Check.due("one byte more", near.append(0x3b000000, 0, 0, 0, 0), 500);
        Check.due("load() of it", near.load() + " " + near.errorPosition(), "-1 499");

        BuoyString most = new BuoyString();
        Check.due("500 tokens", Check.type(most, "-".repeat(500)), 500);
        Check.due("play() of them", most.play() + " " + most.errorCode() + " " + most.errorPosition(), "-1 1 0");
        Check.due("500 tokens", Check.type(most, "1;".repeat(250)), 500);
        Check.due("load() of them", most.load() + " " + most.errorCode() + " " + most.errorPosition(), "-1 1 0");

        BuoyString high = new BuoyString();
        Check.due("bytes above 127", high.append(-1, 0x80808080, 0, 0, 0), 8);
        Check.due("play() of them", high.play() + " " + high.errorCode() + " " + high.errorPosition(), "-1 1 0");
    }

    private static void load() {
        BuoyString x = new BuoyString();
        Check.type(x, "\n terms  999\n9 9 ;\nbuoy 0 9 99 99;buoy 9999 1 0 -99;rope 0 99;stock 99999; \n");
        Check.due("load() of the greatest numbers", x.load(), 2);
        Check.due("buoy 0", x.buoy(0, 0) + " " + x.buoy(0, 1) + " " + x.buoy(0, 2) + " " + x.buoy(0, 3), "0 9 99 99");
        Check.due("buoy 1", x.buoy(1, 0) + " " + x.buoy(1, 1) + " " + x.buoy(1, 2) + " " + x.buoy(1, 3),
                "9999 1 0 -99");
        Check.due("rope 0", x.rope(0, 0) + " " + x.rope(0, 1) + " " + x.rope(0, 2), "9999 99 0");
        Check.due("terms", x.size(8) + " " + x.size(9) + " " + x.size(10), "999 9 9");
        Check.due("stock", x.size(7) + " " + x.size(15) + " " + x.size(16), "99999 99999 0");
        Check.due("error", x.errorCode() + " " + x.errorPosition(), "0 -1");

        BuoyString y = Check.loaded("terms0 1 1;buoy1 1 1;stock5;buoy2 1 1-7;rope0 3;buoy 4 1 1 - 0;"
                + "rope 1 000000000000000000000000000000000000004;rope 0 7;stock 6;stock 00;");
        Check.due("buoys", y.size(0), 3);
        Check.due("offsets", y.buoy(0, 3) + " " + y.buoy(1, 3) + " " + y.buoy(2, 3), "0 -7 0");
        Check.due("the last strengths count", y.rope(0, 1) + " " + y.rope(1, 1), "7 4");
        Check.due("the last stock counts", y.size(7) + " " + y.size(15), "0 0");

        BuoyString ten = Check.loaded("terms 5 1 1;buoy 0 1 1;buoy 1 1 1;buoy 2 1 1;buoy 3 1 1;buoy 4 1 1;"
                + "buoy 5 1 1;buoy 6 1 1;buoy 7 1 1;buoy 8 1 1;buoy 9 1 1;rope 8 9;");
        Check.due("ten buoys", ten.size(0) + " " + ten.rope(8, 1) + " " + ten.rope(7, 1), "10 9 10");
    }

    private static void loadReplacesEverything() {
        BuoyString x = Check.loaded("terms 5 1 1;buoy 0 1 9;buoy 5 1 9;buoy 9 1 9;rope 1 5;stock 9;");
        Check.play(x, "hour 0 0 1 0 2 50;storm 30 0 1;remake 0;stock 7;haul 0;");
        x.report(1, 7);
        Check.string(x);
        x.save(1);
        String before = Check.everything(x);
        int written = x.writeString();
        String output = Check.written(x, written);
        Check.type(x, "terms 5 1 1;buoy 0 1 9;buoy 5 1 9;buoy 9 1 9;rope 1 5;stock 9");
        Check.due("load() of a text with an error", x.load(), -1);
        Check.due("nothing else changes", Check.everything(x), before);
        Check.due("load() of an empty text", x.load() + " " + x.errorCode() + " " + x.errorPosition(), "-1 1 0");
        Check.due("the acts", x.account(0) + " " + x.account(1), "8 1");
        Check.type(x, "terms 6 2 3;buoy 3 2 4;buoy 8 1 9;");
        Check.due("load()", x.load(), 2);
        BuoyString y = Check.loaded("terms 6 2 3;buoy 3 2 4;buoy 8 1 9;");
        Check.due("everything is replaced", Check.world(x), Check.world(y));
        Check.due("acts that can be undone", x.size(12), 0);
        Check.refused("undo()", Check.STATE, () -> x.undo());
        Check.due("the accounts stay", x.account(0) + " " + x.account(1), "8 1");
        Check.due("the output stays", Check.written(x, written), output);
        Check.due("the saved states stay", x.restore(1), 3);
        Check.due("the text buffer is empty", x.append(0, 0, 0, 0, 0), 0);
    }

    private static void setupErrors() {
        String start = "terms 5 1 1;";
        Check.loadError("", 1, 0);
        Check.loadError("  \n ", 1, 4);
        Check.loadError("term 5 1 1;", 1, 0);
        Check.loadError("termsx 5 1 1;", 1, 0);
        Check.loadError("Terms 5 1 1;", 1, 0);
        Check.loadError(" buoy 5 1 1;", 1, 1);
        Check.loadError("terms", 1, 5);
        Check.loadError("terms  ", 1, 7);
        Check.loadError("terms -5 1 1;", 1, 6);
        Check.loadError("terms 1000 0 0;", 2, 6);
        Check.loadError("terms 99999999999999999999999999999 1 1;", 2, 6);
        Check.loadError("terms 4294967296 1 1;", 2, 6);
        Check.loadError("terms 5 0 1;", 2, 8);
        Check.loadError("terms 5 10 1;", 2, 8);
        Check.loadError("terms 5 1 0;", 2, 10);
        Check.loadError("terms 5 1 10;", 2, 10);
        Check.loadError("terms 5 1;", 1, 9);
        Check.loadError("terms 5 1 1 1;", 1, 12);
        Check.loadError("terms 5 1 1", 1, 11);
        Check.loadError("terms\t5 1 1;", 1, 5);
        Check.loadError(start, 5, 12);
        Check.loadError(start + "buoy 1 1 1;", 5, 23);
        Check.loadError(start + "buoy 1 1 1; \n", 5, 25);
        Check.loadError(start + "buoy 1 1 1;stock 1", 1, 30);
        Check.loadError(start + "buoy 1 1 1", 1, 22);
        Check.loadError(start + ";", 1, 12);
        Check.loadError(start + "hour;", 1, 12);
        Check.loadError(start + "terms 5 1 1;", 1, 12);
        Check.loadError(start + "buoys 1 1 1;", 1, 12);
        Check.loadError(start + "buoy 10000 1 1;", 2, 17);
        Check.loadError(start + "buoy 1 0 1;", 2, 19);
        Check.loadError(start + "buoy 1 10 1;", 2, 19);
        Check.loadError(start + "buoy 1 1 100;", 2, 21);
        Check.loadError(start + "buoy 1 1 1 100;", 2, 23);
        Check.loadError(start + "buoy 1 1 1 -100;", 2, 24);
        Check.loadError(start + "buoy 1 1 1 --1;", 1, 24);
        Check.loadError(start + "buoy 1 1 1 -;", 1, 24);
        Check.loadError(start + "buoy 1 1 1 1 1;", 1, 25);
        Check.loadError(start + "buoy -1 1 1;", 1, 17);
        Check.loadError(start + "buoy 5 1 1;buoy 5 1 1;", 3, 28);
        Check.loadError(start + "buoy 5 1 1;buoy 4 0 1;", 3, 28);
        Check.loadError(start + "buoy 9999 1 1;buoy 10000 1 1;", 2, 31);
        Check.loadError(start + "rope 0 1;", 2, 17);
        Check.loadError(start + "buoy 5 1 1;rope 0 1;", 2, 28);
        Check.loadError(start + "buoy 5 1 1;buoy 6 1 1;rope 1 1;", 2, 39);
        Check.loadError(start + "buoy 5 1 1;buoy 6 1 1;rope 0 0;", 2, 41);
        Check.loadError(start + "buoy 5 1 1;buoy 6 1 1;rope 0 100;", 2, 41);
        Check.loadError(start + "buoy 5 1 1;buoy 6 1 1;rope -0 1;", 1, 39);
        Check.loadError(start + "buoy 5 1 1;buoy 6 1 1;rope 0;", 1, 40);
        Check.loadError(start + "stock 100000;", 2, 18);
        Check.loadError(start + "stock -1;", 1, 18);
        Check.loadError(start + "stock;", 1, 17);
        StringBuilder many = new StringBuilder(start);
        for (int b = 0; b < 10; b++) {
            many.append("buoy ").append(b).append(" 1 1;");
        }
        Check.loadError(many + "buoy", 4, 122);
        Check.loadError(many + "buoyx", 1, 122);
        Check.loadError(many + "rope 9 1;", 2, 127);
    }

    private static void play() {
        BuoyString x = Check.loaded("terms 5 1 2;buoy 0 1 9;buoy 100 1 9;buoy 150 1 9;stock 500;");
        Check.due("play()", Check.play(x, " hour 0 4 1 -0 2 - 9999;\nhour2 5 0 0007;stock 9999;storm 11 1 1;"
                + "haul 2;remake 0;"), 5);
        Check.due("the hours", x.hour(0, 3) + " " + x.value(0, 1) + " " + x.value(0, 2) + " " + x.size(1), "3 0 -9999 2");
        Check.due("the refusal", x.account(1) + " " + x.account(0), "1 10");
        Check.due("each is an act of its own", x.size(12), 8);
        x.undo();
        Check.due("undo() of the haul", Check.string(x), "0T-1T-2D");
        x.undo();
        x.undo();
        Check.due("undo() of the storm and the stock", x.size(7) + " " + x.size(11), "500 0");
        x.undo();
        x.undo();
        Check.due("undo() of the hour, and of a report", x.size(1) + " " + x.buoy(0, 8) + x.buoy(1, 8) + x.buoy(2, 8),
                "1 001");
        Check.due("play() of an empty text", x.play() + " " + x.errorCode() + " " + x.errorPosition(), "0 0 -1");
        Check.due("an hour with the reports that there are", Check.play(x, "hour 0 5;"), 1);
        Check.due("the reports of both", x.hour(1, 3), 2);
        BuoyString ten = Check.loaded("terms 9 1 1;buoy 0 1 1;buoy 1 1 1;buoy 2 1 1;buoy 3 1 1;buoy 4 1 1;"
                + "buoy 5 1 1;buoy 6 1 1;buoy 7 1 1;buoy 8 1 1;buoy 9 1 1;");
        Check.due("an hour of all ten", Check.play(ten, "hour 9 9 0 0 1 1 2 2 3 3 4 4 5 5 6 6 7 7 8 8;") + " "
                + ten.hour(0, 3) + " " + ten.level(0), "1 10 4");
        Check.playError(ten, "hour 9 9 0 0 1 1 2 2 3 3 4 4 5 5 6 6 7 7 8 8 4 4;", 3, 45);
        BuoyString y = new BuoyString();
        Check.due("40 commands", Check.play(y, "hour;".repeat(40)), 40);
        Check.due("40 hours", y.size(1), 40);
    }

    private static void playStops() {
        BuoyString x = new BuoyString();
        Check.due("a refused plan", Check.play(x, "plan 9;plan 10;stock 5;"), 1);
        Check.due("its account", x.account(3) + " " + x.account(0) + " " + x.size(7), "1 1 0");
        Check.due("a refused remake", Check.play(x, "remake 0;stock 5;"), 0);
        Check.due("a plan that is refused for its force", Check.play(x, "stock 1;plan 1;plan 99;hour;"), 2);
        x.undo();
        x.undo();
        Check.due("acts that answer 0 are done", Check.play(x, "stock 100;storm 1 0 0;storm 1 0 1;remake 0;plan 1;"), 5);
        Check.due("the stock", x.size(7), 0);
        Check.due("its account", x.account(1) + " " + x.account(3) + " " + x.size(7), "1 2 0");
        Check.due("a refused stock", Check.play(x, "stock 9999;".repeat(11) + "hour;"), 10);
        Check.due("its account", x.account(4) + " " + x.size(7) + " " + x.size(1), "1 99990 0");
        Check.due("a remake without rope", Check.play(x, "storm 1 0 1;remake 0;storm 50 0 1;"), 3);
        Check.due("a remake without rope", Check.play(new BuoyString(), "storm 1 0 1;remake 0;hour;"), 1);
        Check.due("no error", x.errorCode() + " " + x.errorPosition(), "0 -1");
    }

    private static void scriptErrors() {
        BuoyString x = Check.loaded("terms 5 1 2;buoy 0 1 9;buoy 100 1 9;buoy 150 1 9;stock 500;");
        x.report(1, 3);
        Check.playError(x, "hour;fly;", 1, 5);
        Check.playError(x, ";", 1, 0);
        Check.playError(x, "hour;;", 1, 5);
        Check.playError(x, "5", 1, 0);
        Check.playError(x, "hour", 1, 4);
        Check.playError(x, "hour \n", 1, 6);
        Check.playError(x, "hour 0", 1, 6);
        Check.playError(x, "hour 0;", 1, 6);
        Check.playError(x, "hour -0 5;", 1, 5);
        Check.playError(x, "hour 0 5 1;", 1, 10);
        Check.playError(x, "hour 3 5;", 2, 5);
        Check.playError(x, "hour 0 5 0 6;", 3, 9);
        Check.playError(x, "hour 0 5 1 6 2 7 1", 3, 17);
        Check.playError(x, "hour 0 5 1 6 2 7 3", 2, 17);
        Check.playError(x, "hour 0 -10000;", 2, 8);
        Check.playError(x, "hour 0 10000;", 2, 7);
        Check.playError(x, "hour 0 --1;", 1, 8);
        Check.playError(x, "hour 0 - -1;", 1, 9);
        Check.playError(x, "hour 0 hour;", 1, 7);
        Check.playError(x, "storm 0 0 0;", 2, 6);
        Check.playError(x, "storm 100 0 0;", 2, 6);
        Check.playError(x, "storm 1 3 0;", 2, 8);
        Check.playError(x, "storm 1 0 3;", 2, 10);
        Check.playError(x, "storm 1 2 1;", 3, 10);
        Check.playError(x, "storm 1 2 1", 3, 10);
        Check.playError(x, "storm 1 2;", 1, 9);
        Check.playError(x, "storm 1 1 1 1;", 1, 12);
        Check.playError(x, "remake 2;", 2, 7);
        Check.playError(x, "remake;", 1, 6);
        Check.playError(x, "plan 0;", 2, 5);
        Check.playError(x, "plan 100;", 2, 5);
        Check.playError(x, "haul 3;", 2, 5);
        Check.playError(x, "stock 0;", 2, 6);
        Check.playError(x, "stock 10000;", 2, 6);
        Check.playError(x, "stock 100000000000000000000;", 2, 6);
        Check.playError(x, "buoy 5 1 1;", 1, 0);
        Check.playError(x, "rope 0 5;", 1, 0);
        Check.playError(x, "terms 5 1 1;", 1, 0);
        Check.playError(x, "hour;!", 1, 5);
        Check.playError(x, "hour,", 1, 4);
        Check.playError(x, "HOUR;", 1, 0);
        Check.playError(x, "hourz;", 1, 0);
        Check.playError(x, "houra;", 1, 0);
        Check.playError(x, "xour;", 1, 0);
        Check.playError(x, "hovr;", 1, 0);
        Check.playError(x, "hous;", 1, 0);
        Check.playError(x, "hour\r;", 1, 4);
        Check.playError(x, "hour{", 1, 4);
        Check.playError(x, "hour`", 1, 4);
        Check.playError(x, "hour/", 1, 4);
        Check.playError(x, "hour:", 1, 4);
        Check.playError(x, "hour;".repeat(40) + "haul 9;", 4, 200);
        Check.playError(x, "hour;".repeat(40) + " stock", 4, 201);
        Check.playError(x, "hour;".repeat(40) + "hou;", 1, 200);
        Check.playError(x, "hour;".repeat(40) + "terms;", 1, 200);
        Check.due("the greatest numbers", Check.play(x, "stock 9999;storm 99 2 2;hour 2 9999 0 -9999;"), 3);
    }

    private static void latestErrors() {
        BuoyString x = new BuoyString();
        Check.playError(x, " x", 1, 1);
        Check.due("play() without an error", Check.play(x, "hour;"), 1);
        Check.due("the error of it", x.errorCode() + " " + x.errorPosition(), "0 -1");
        Check.type(x, "terms 5 0");
        x.load();
        Check.due("the error of load()", x.errorCode() + " " + x.errorPosition(), "2 8");
        x.endHour();
        x.undo();
        Check.due("the error stays", x.errorCode() + " " + x.errorPosition(), "2 8");
        x.play();
        Check.due("the error of an empty script", x.errorCode() + " " + x.errorPosition(), "0 -1");
        Check.type(x, "terms 5 0");
        x.load();
        Check.type(x, "terms 5 1 1;buoy 0 1 1;buoy 1 1 1;");
        Check.due("load()", x.load(), 2);
        Check.due("the error of a setup without an error", x.errorCode() + " " + x.errorPosition(), "0 -1");
    }
}
