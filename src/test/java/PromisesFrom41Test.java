/** Promises 41 to 46, the output, undo and saved states: a test for each sentence with a boundary. */
public final class PromisesFrom41Test {
    private static final int LEAST = Integer.MIN_VALUE;
    private static final int MOST = Integer.MAX_VALUE;
    private static final int[] NO_SLOTS = {-1, 2, 3, 32, LEAST, MOST};

    public static void main(String[] args) {
        stringOfTwoAndTen();
        lettersOfStates();
        hyphenOrSpace();
        stringReplacesOutput();
        hoursOfNone();
        levelOrQuestionMark();
        hoursFromEarliestOn();
        longestHours();
        hoursReplaceOutput();
        outputInRange();
        undoOfNone();
        undoOfEightActs();
        undoBringsBack();
        undoLeavesTheRest();
        undoOfLostHour();
        saveIsNoAct();
        saveReplaces();
        saveInRange();
        saveKeepsItsState();
        restoreStaysSaved();
        restoreLeavesNoActs();
        restoreOfOtherBuoys();
        restoreLeavesTheRest();
        restoreOfNothing();
        Check.end("PromisesFrom41Test");
    }

    private static void stringOfTwoAndTen() {
        Check.edge("Promise 41", "Returns the number of bytes of the output.");
        BuoyString two = Check.stringOf(2);
        Check.due("two buoys", two.writeString() + " " + Check.written(two, 5), "5 0T-1T");
        BuoyString ten = Check.stringOf(10);
        Check.due("ten buoys", ten.writeString() + " " + Check.written(ten, 29), "29 0T-1T-2T-3T-4T-5T-6T-7T-8T-9T");
        Check.refused("its end", Check.INDEX, () -> ten.output(29));
    }

    private static void lettersOfStates() {
        Check.edge("Promise 41", "its number and a letter (T trusted, S suspect, D dragged)");
        BuoyString x = Check.usedString();
        Check.due("a dragged one", Check.string(x), "0T-1T-2T 3D");
        x.haul(3);
        Check.due("a suspect one", Check.string(x), "0T-1T-2T 3S");
        x.storm(99, 0, 3);
        Check.due("all suspect", Check.string(x), "0S 1S 2S 3S");
        BuoyString y = Check.loaded("terms 0 1 9;buoy 0 9 9;buoy 1 1 9;buoy 2 1 9;");
        Check.play(y, "hour 0 0 1 1 2 2;");
        Check.due("all but one dragged", Check.string(y), "0T-1D-2D");
        Check.due("the bytes", y.output(0) + " " + y.output(1) + " " + y.output(4), "48 84 68");
    }

    private static void hyphenOrSpace() {
        Check.edge("Promise 41",
                "behind each buoy but the last one a hyphen (byte 45) if the rope to the next one is whole, "
                + "otherwise a space");
        BuoyString x = Check.stringOf(4);
        x.storm(10, 0, 3);
        for (int b = 0; b < 4; b++) {
            x.setHold(b, 99);
        }
        Check.due("worn ropes are whole", Check.string(x), "0S-1S-2S-3S");
        x.storm(1, 0, 1);
        x.storm(1, 2, 3);
        Check.due("the first one and the last one", Check.string(x), "0S 1S-2S 3S");
        Check.due("the bytes", x.output(2) + " " + x.output(5) + " " + x.output(8), "32 45 32");
        x.addStock(1);
        x.remake(0);
        Check.due("one remade", Check.string(x), "0S-1S-2S 3S");
        Check.due("no byte behind the last one", x.writeString(), 11);
    }

    private static void stringReplacesOutput() {
        Check.edge("Promise 41", "Writes the string as the output, which is replaced");
        BuoyString x = Check.stringOf(2);
        Check.play(x, "hour;".repeat(24));
        x.writeHours();
        Check.due("a shorter one behind a longer one", x.writeString() + " " + Check.written(x, 5), "5 0T-1T");
        Check.refused("its end", Check.INDEX, () -> x.output(5));
        x.storm(99, 0, 1);
        Check.due("the output is that of then", Check.written(x, 5), "0T-1T");
        Check.due("the same length", x.writeString() + " " + Check.written(x, 5), "5 0S 1S");
    }

    private static void hoursOfNone() {
        Check.edge("Promise 42",
                "Writes the kept hours, from the earliest one on, as the output; Returns the number of "
                + "bytes of the output.");
        BuoyString x = Check.stringOf(2);
        x.writeString();
        x.report(0, 5);
        Check.due("no hour has ended", x.writeHours(), 0);
        Check.refused("output(0)", Check.INDEX, () -> x.output(0));
        x.endHour();
        Check.due("one hour", x.writeHours() + " " + Check.written(x, 3), "3 0=5");
        Check.refused("no space behind it", Check.INDEX, () -> x.output(3));
    }

    private static void levelOrQuestionMark() {
        Check.edge("Promise 42",
                "for each its number, and an equals sign and its level if it has one, otherwise a question "
                + "mark; with a space between two hours");
        BuoyString x = Check.stringOf(2);
        Check.play(x,
                "hour 0 0;hour;hour 0 -1;hour 0 0 1 50;hour 0 10;hour 0 -9999;hour 0 9999;hour 0 100;hour 0 -10;");
        Check.due("the hours", Check.hours(x), "0=0 1? 2=-1 3? 4=10 5=-9999 6=9999 7=100 8=-10");
        Check.play(x, "hour;hour;");
        Check.due("two digits", Check.hours(x), "0=0 1? 2=-1 3? 4=10 5=-9999 6=9999 7=100 8=-10 9? 10?");
        BuoyString y = Check.stringOf(4);
        Check.play(y, "hour 0 0 1 0 2 0 3 50;hour 0 7 3 50;");
        Check.due("ahead of it", Check.hours(y), "0=0 1?");
        Check.play(y, "hour 0 0 1 0 2 0 3 50;");
        Check.due("the level as it is now", Check.hours(y), "0=0 1=7 2=0");
    }

    private static void hoursFromEarliestOn() {
        Check.edge("Promise 42", "Writes the kept hours, from the earliest one on");
        BuoyString x = Check.stringOf(2);
        Check.play(x, "hour 0 7;hour 0 8;" + "hour;".repeat(22));
        Check.due("24 hours", Check.hours(x),
                "0=7 1=8 2? 3? 4? 5? 6? 7? 8? 9? 10? 11? 12? 13? 14? 15? 16? 17? 18? 19? "
                + "20? 21? 22? 23?");
        Check.play(x, "hour 0 9;");
        Check.due("25 hours", Check.hours(x),
                "1=8 2? 3? 4? 5? 6? 7? 8? 9? 10? 11? 12? 13? 14? 15? 16? 17? 18? 19? 20? "
                + "21? 22? 23? 24=9");
        Check.play(x, "hour;");
        Check.due("26 hours", Check.hours(x),
                "2? 3? 4? 5? 6? 7? 8? 9? 10? 11? 12? 13? 14? 15? 16? 17? 18? 19? 20? 21? "
                + "22? 23? 24=9 25?");
    }

    private static void longestHours() {
        Check.edge("Promise 42", "its number, and an equals sign and its level");
        BuoyString x = Check.loaded("terms 5 9 9;buoy 0 1 9 99;buoy 1 1 9 -99;");
        for (int n = 0; n < 250; n++) {
            Check.play(x, "hour;".repeat(40));
        }
        Check.play(x, "hour 0 -9999;".repeat(23) + "hour 1 9999;");
        StringBuilder want = new StringBuilder();
        for (int h = 10000; h < 10023; h++) {
            want.append(h).append("=-10098 ");
        }
        want.append("10023=10098");
        Check.due("hours of five digits", x.writeHours() + " " + Check.hours(x), want.length() + " " + want);
    }

    private static void hoursReplaceOutput() {
        Check.edge("Promise 42", "as the output, which is replaced");
        BuoyString x = Check.stringOf(10);
        x.endHour();
        x.writeString();
        Check.due("a shorter one behind a longer one", x.writeHours() + " " + Check.written(x, 2), "2 0?");
        Check.refused("its end", Check.INDEX, () -> x.output(2));
        x.undo();
        Check.due("the output is that of then", Check.written(x, 2), "0?");
        Check.due("an empty one", x.writeHours(), 0);
        Check.refused("its first byte", Check.INDEX, () -> x.output(0));
    }

    private static void outputInRange() {
        Check.edge("Promise 43", "`index`: 0 for the first byte. Throws `IndexOutOfBoundsException` if there is "
                + "no such byte");
        BuoyString x = Check.stringOf(2);
        Check.refused("output(0) at first", Check.INDEX, () -> x.output(0));
        x.writeString();
        Check.due("the first byte and the last one", x.output(0) + " " + x.output(4), "48 84");
        for (int i : new int[] {-1, 5, 499, 500, LEAST, MOST}) {
            Check.refused("output(" + i + ")", Check.INDEX, () -> x.output(i));
        }
    }

    private static void undoOfNone() {
        Check.edge("Promise 44", "Throws `IllegalStateException` if there is no act to undo");
        BuoyString x = new BuoyString();
        Check.refused("at first", Check.STATE, () -> x.undo());
        x.haul(0);
        Check.answer(() -> x.report(9, 9));
        Check.refused("behind a refusal and an exception", Check.STATE, () -> x.undo());
        x.report(0, 5);
        Check.due("behind an act", x.undo(), 0);
        Check.refused("behind undo()", Check.STATE, () -> x.undo());
        x.report(0, 5);
        Check.type(x, Check.setupOf(2));
        x.load();
        Check.refused("behind load()", Check.STATE, () -> x.undo());
        x.report(0, 5);
        x.save(0);
        x.restore(0);
        Check.refused("behind restore()", Check.STATE, () -> x.undo());
    }

    private static void undoOfEightActs() {
        Check.edge("Promise 44", "Returns the number of acts that can still be undone.");
        BuoyString x = Check.stringOf(2);
        for (int n = 0; n < 9; n++) {
            x.addStock(1);
        }
        for (int n = 7; n >= 0; n--) {
            Check.due("undo()", x.undo() + " " + x.size(12) + " " + x.size(7), n + " " + n + " " + (n + 1));
        }
        Check.refused("a ninth one", Check.STATE, () -> x.undo());
        // acts and undo() in turns, past the eighth place
        for (int n = 0; n < 20; n++) {
            x.addStock(5);
            x.addStock(7);
            Check.due("undo() of one of two", x.undo() + " " + x.size(7), Math.min(n + 1, 7) + " " + (6 + 5 * n));
        }
        for (int n = 7; n > 0; n--) {
            Check.due("undo()", x.undo() + " " + x.size(7), (n - 1) + " " + (61 + 5 * n));
        }
        Check.refused("no more", Check.STATE, () -> x.undo());
    }

    private static void undone(BuoyString x, String call, Check.Call made) {
        String world = Check.world(x);
        int left = x.size(12);
        Check.due(call + " is done", Integer.parseInt(Check.answer(made)) >= 0, true);
        Check.due("undo() of " + call, x.undo() + " " + Check.world(x), Math.min(left, 7) + " " + world);
    }

    private static void undoBringsBack() {
        Check.edge("Promise 44", "everything (what size() tells, too) ... is as it was ahead of it");
        BuoyString x = Check.usedString();
        x.report(1, 0);
        x.report(2, 50);
        undone(x, "report()", () -> x.report(0, -7));
        undone(x, "endHour()", () -> x.endHour());
        undone(x, "storm()", () -> x.storm(99, 0, 3));
        undone(x, "storm() of one", () -> x.storm(1, 0, 0));
        undone(x, "remake()", () -> x.remake(0));
        x.addStock(100);
        x.setHold(2, 20);
        undone(x, "remake() of a broken rope", () -> x.remake(2));
        undone(x, "remakeBy()", () -> x.remakeBy(10));
        undone(x, "remakeBy() of no rope", () -> x.remakeBy(1));
        undone(x, "haul()", () -> x.haul(3));
        undone(x, "addStock()", () -> x.addStock(9999));
        undone(x, "setOffset()", () -> x.setOffset(1, 99));
        undone(x, "setHold()", () -> x.setHold(1, 0));
        undone(x, "setTerms()", () -> x.setTerms(0, 1, 1));
        x.setTerms(5, 1, 1);
        undone(x, "endHour() that drags one", () -> x.endHour());
        x.haul(3);
        x.report(3, 0);
        x.setTerms(5, 9, 9);
        undone(x, "endHour() by which one agrees", () -> x.endHour());
        x.endHour();
        Check.due("it agrees", x.buoy(3, 6), 1);
        undone(x, "storm() by which it drifts", () -> x.storm(99, 3, 3));
        x.setTerms(5, 9, 1);
        x.report(3, 0);
        x.report(0, 0);
        x.report(1, 0);
        undone(x, "endHour() that trusts one", () -> x.endHour());
    }

    private static void undoLeavesTheRest() {
        Check.edge("Promise 44", "everything but the accounts, the text buffer, the results of errorCode() and "
                + "errorPosition(), the output and the saved states");
        BuoyString x = Check.stringOf(2);
        x.addStock(1);
        Check.playError(x, "storm 0", 2, 6);
        x.haul(0);
        x.addStock(2);
        x.save(1);
        x.writeString();
        Check.type(x, "hour");
        x.undo();
        x.undo();
        Check.due("STOCK", x.size(7), 0);
        Check.due("the accounts", Check.accounts(x), "2 1 0 0 0");
        Check.due("the text buffer", x.append(0x3b, 0, 0, 0, 0), 5);
        Check.due("the error", x.errorCode() + " " + x.errorPosition(), "2 6");
        Check.due("the output", Check.written(x, 5), "0T-1T");
        Check.due("the text", x.play() + " " + x.size(1), "1 1");
        Check.due("the saved state", x.restore(1) + " " + x.size(7), "2 3");
    }

    private static void undoOfLostHour() {
        Check.edge("Promise 44", "is as it was ahead of it (the hour that was no more kept)");
        BuoyString x = Check.stringOf(3);
        Check.play(x, "hour 0 7 1 8 2 90;hour 1 9;" + "hour;".repeat(22));
        String world = Check.world(x);
        Check.play(x, "hour 2 11;");
        Check.refused("hour 0", Check.INDEX, () -> x.level(0));
        x.undo();
        x.undo();
        Check.due("hour 0 again", Check.told(x, 0) + " " + x.value(0, 2), "7 3 1 3 0 7 90");
        Check.due("everything", Check.world(x), world);
        Check.play(x, "hour;hour;hour;");
        x.undo();
        x.undo();
        x.undo();
        Check.due("everything behind three", Check.world(x), world);
        BuoyString y = Check.stringOf(5);
        y.storm(11, 3, 4);
        y.setTerms(5, 1, 9);
        Check.play(y, "hour 0 0 1 0 2 0 3 90 4 0;hour 0 0 1 0 2 0 3 90 4 0;" + "hour 0 0 1 0;".repeat(22));
        world = Check.world(y);
        Check.play(y, "hour;hour;");
        y.undo();
        y.undo();
        Check.due("hours with one taken out, one dragged, one suspect", Check.world(y), world);
        Check.due("why()", "" + y.why(0, 3) + y.why(1, 3) + y.why(0, 4), "532");
    }

    private static void saveIsNoAct() {
        Check.edge("Promise 45",
                "Saves everything that undo() brings back, but not which acts can be undone. Returns the "
                + "number of hours that ended.");
        BuoyString x = Check.stringOf(2);
        Check.due("at first", x.save(0) + " " + x.account(0) + " " + x.size(12), "0 0 0");
        Check.play(x, "hour;".repeat(30));
        Check.due("behind 30 hours", x.save(1) + " " + x.account(0) + " " + x.size(12), "30 30 8");
        Check.due("undo() behind it", x.undo() + " " + x.size(1), "7 29");
        x.restore(1);
        Check.due("acts that can be undone", x.size(12) + " " + x.size(1), "0 30");
    }

    private static void saveReplaces() {
        Check.edge("Promise 45", "`slot`: 0 or 1; a state that is already saved there is replaced");
        BuoyString x = Check.stringOf(2);
        x.save(0);
        x.addStock(1);
        x.save(1);
        x.addStock(1);
        x.save(1);
        x.addStock(1);
        Check.due("the second one", x.restore(1) + " " + x.size(7), "2 2");
        Check.due("the other one", x.restore(0) + " " + x.size(7), "2 0");
        x.addStock(9);
        x.save(0);
        Check.due("replaced, too", x.restore(0) + " " + x.size(7), "2 9");
        Check.due("not replaced by it", x.restore(1) + " " + x.size(7), "2 2");
    }

    private static void saveInRange() {
        Check.edge("Promise 45", "Throws `IndexOutOfBoundsException` if slot is neither");
        BuoyString x = Check.stringOf(2);
        for (int slot : NO_SLOTS) {
            Check.refused("save(" + slot + ")", Check.INDEX, () -> x.save(slot));
        }
        Check.refused("nothing was saved", Check.STATE, () -> x.restore(0));
        Check.refused("nothing was saved", Check.STATE, () -> x.restore(1));
        Check.due("0 and 1", x.save(0) + " " + x.save(1), "0 0");
    }

    private static void saveKeepsItsState() {
        Check.edge("Promise 45", "Saves everything that undo() brings back");
        BuoyString x = Check.usedString();
        String world = Check.world(x);
        x.save(1);
        Check.play(x, "hour 0 50 1 1 2 2 3 3;".repeat(3) + "storm 99 0 3;stock 300;remake 0;haul 3;");
        x.setOffset(0, 9);
        x.setHold(0, 1);
        x.setTerms(1, 1, 1);
        x.report(2, 2);
        Check.due("much is different", Check.world(x).equals(world), false);
        Check.due("restore(1)", x.restore(1) + " " + Check.world(x), "4 " + world);
        saveKeepsItsHours();
    }

    /** 24 hours with values of trusted, suspect and dragged buoys, some of them taken out. */
    private static void saveKeepsItsHours() {
        BuoyString x = Check.stringOf(5);
        x.setTerms(5, 2, 9);
        x.storm(11, 3, 4);
        for (int h = 0; h < 24; h++) {
            Check.play(x, "hour 0 " + h + " 1 " + (h + 1) + " 2 " + (h + 2) + " 3 " + (h < 2 ? 90 : h) + " 4 99;");
        }
        Check.due("why() of two hours", "" + x.why(1, 3) + x.why(1, 4) + x.why(23, 3) + x.why(23, 4), "5232");
        String world = Check.world(x);
        x.save(0);
        Check.play(x, "hour 1 8;".repeat(24));
        String later = Check.world(x);
        x.save(1);
        Check.due("hours that were no more kept", x.restore(0) + " " + Check.world(x), "5 " + world);
        Check.due("later hours", x.restore(1) + " " + Check.world(x), "5 " + later);
        Check.type(x, Check.setupOf(5));
        x.load();
        Check.play(x, "hour 0 1 1 1 2 1 3 1 4 1;".repeat(15));
        Check.play(x, "hour 4 1 3 1 2 1 1 1 0 1;".repeat(15));
        Check.due("behind load()", x.restore(0) + " " + Check.world(x), "5 " + world);
    }

    private static void restoreStaysSaved() {
        Check.edge("Promise 46", "Brings back a saved state, which stays saved");
        BuoyString x = Check.usedString();
        x.save(1);
        String world = Check.world(x);
        for (int n = 0; n < 3; n++) {
            Check.due("restore(1)", x.restore(1) + " " + Check.world(x), "4 " + world);
            x.report(1, n);
            x.endHour();
            x.haul(3);
            x.storm(99, 0, 3);
        }
        x.save(0);
        Check.due("restore(1) behind save(0)", x.restore(1) + " " + Check.world(x), "4 " + world);
    }

    private static void restoreLeavesNoActs() {
        Check.edge("Promise 46", "no act can be undone then");
        BuoyString x = Check.stringOf(2);
        for (int n = 0; n < 10; n++) {
            x.addStock(1);
        }
        x.save(0);
        Check.due("behind save()", x.size(12), 8);
        x.restore(0);
        Check.due("behind restore()", x.size(12), 0);
        Check.refused("undo()", Check.STATE, () -> x.undo());
        x.addStock(1);
        x.addStock(1);
        Check.due("of two acts behind it", x.undo() + " " + x.undo() + " " + x.size(7), "1 0 10");
        Check.refused("a third undo()", Check.STATE, () -> x.undo());
    }

    private static void restoreOfOtherBuoys() {
        Check.edge("Promise 46", "Returns the number of buoys then.");
        BuoyString x = Check.stringOf(10);
        Check.play(x, "hour 9 5;hour 8 6;");
        String world = Check.world(x);
        x.save(0);
        Check.type(x, Check.setupOf(2));
        x.load();
        x.save(1);
        Check.refused("a third buoy", Check.INDEX, () -> x.buoy(2, 0));
        Check.due("ten buoys", x.restore(0) + " " + Check.world(x), "10 " + world);
        Check.due("two buoys", x.restore(1) + " " + x.size(0) + " " + x.size(1), "2 2 0");
        Check.refused("a third buoy", Check.INDEX, () -> x.segmentOf(2));
        Check.refused("hour 0", Check.INDEX, () -> x.hour(0, 0));
    }

    private static void restoreLeavesTheRest() {
        Check.edge("Promise 46", "Brings back a saved state (what undo() leaves stays)");
        BuoyString x = Check.stringOf(2);
        x.save(0);
        Check.playError(x, "storm 0", 2, 6);
        x.addStock(1);
        x.haul(0);
        x.writeString();
        Check.type(x, "hour;");
        x.restore(0);
        Check.due("the accounts", Check.accounts(x), "1 1 0 0 0");
        Check.due("the text buffer", x.append(0, 0, 0, 0, 0), 5);
        Check.due("the error", x.errorCode() + " " + x.errorPosition(), "2 6");
        Check.due("the output", Check.written(x, 5), "0T-1T");
    }

    private static void restoreOfNothing() {
        Check.edge("Promise 46",
                "Throws `IndexOutOfBoundsException` if slot is neither; `IllegalStateException` if nothing "
                + "is saved there");
        BuoyString x = Check.stringOf(2);
        for (int slot : NO_SLOTS) {
            Check.refused("restore(" + slot + ")", Check.INDEX, () -> x.restore(slot));
        }
        Check.refused("restore(0)", Check.STATE, () -> x.restore(0));
        Check.refused("restore(1)", Check.STATE, () -> x.restore(1));
        x.save(1);
        Check.refused("restore(0) behind save(1)", Check.STATE, () -> x.restore(0));
        Check.due("restore(1)", x.restore(1), 2);
        BuoyString y = Check.stringOf(2);
        y.save(0);
        Check.refused("restore(1) behind save(0)", Check.STATE, () -> y.restore(1));
        Check.due("restore(0)", y.restore(0), 2);
    }
}
