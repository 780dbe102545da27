/** Promises 31 to 40, acts: a test for each sentence with a boundary. */
public final class PromisesFrom31Test {
    private static final int LEAST = Integer.MIN_VALUE;
    private static final int MOST = Integer.MAX_VALUE;
    private static final int[] NO_BUOYS = {-1, 4, 10, 32, LEAST, MOST};

    public static void main(String[] args) {
        reportsOfThisHour();
        reportOutOfRange();
        draggedByHour();
        driftingByStorm();
        stormOutOfRange();
        remakeLeavesStock();
        remakeOfWholeRope();
        remakeOfLongRope();
        remakeOfNoRope();
        remakeByPlan();
        remakeByNoRope();
        remakeByNoPlan();
        haulLeavesDragged();
        haulOfOthers();
        haulLeavesHours();
        addStockInRange();
        addStockAbove();
        offsetThatItHad();
        offsetOutOfRange();
        offsetWhenHourEnds();
        holdThatItHad();
        holdOutOfRange();
        toleranceThatThereWas();
        termsOutOfRange();
        termsChangeNothingElse();
        Check.end("PromisesFrom31Test");
    }

    private static void reportsOfThisHour() {
        Check.edge("Promise 31", "Returns how many buoys have reported in this hour then.");
        BuoyString x = Check.stringOf(10);
        for (int b = 9; b >= 0; b--) {
            Check.due("report " + (10 - b), x.report(b, b), 10 - b);
        }
        Check.due("an eleventh report", x.report(5, -5) + " " + x.buoy(5, 9), "10 -5");
        x.endHour();
        Check.due("the first one of the next hour", x.report(0, 0), 1);
    }

    private static void reportOutOfRange() {
        Check.edge("Promise 31",
                "Throws `IndexOutOfBoundsException` if there is no such buoy; `IllegalArgumentException` "
                + "if report is out of range");
        BuoyString x = Check.stringOf(4);
        Check.due("the least and the greatest report", x.report(0, -9999) + " " + x.report(3, 9999), "1 2");
        for (int b : NO_BUOYS) {
            Check.refused("report(" + b + ", 0)", Check.INDEX, () -> x.report(b, 0));
            Check.refused("report(" + b + ", 10000)", Check.INDEX, () -> x.report(b, 10000));
        }
        for (int r : new int[] {-10000, 10000, LEAST, MOST}) {
            Check.refused("report(3, " + r + ")", Check.ARGUMENT, () -> x.report(3, r));
        }
        Check.due("the reports", x.buoy(0, 9) + " " + x.buoy(3, 9) + " " + x.account(0), "-9999 9999 2");
    }

    private static void draggedByHour() {
        Check.edge("Promise 32", "Returns how many buoys became dragged by it.");
        BuoyString x = Check.stringOf(10);
        x.setTerms(5, 1, 9);
        Check.due("an hour without reports", x.endHour(), 0);
        for (int b = 0; b < 10; b++) {
            x.report(b, b < 6 ? 0 : 50 * b);
        }
        Check.due("four of ten", x.endHour() + " " + x.size(5), "4 4");
        for (int b = 0; b < 10; b++) {
            x.report(b, b < 5 ? 0 : 50 * b);
        }
        Check.due("one more: those that are dragged do not count", x.endHour() + " " + x.size(5), "1 5");
        x.report(0, 0);
        x.report(1, 50);
        Check.due("an hour without a level", x.endHour() + " " + x.size(5), "0 5");
    }

    private static void driftingByStorm() {
        Check.edge("Promise 33", "Returns all buoys of the segments that drift (dragged ones, too), as a set.");
        BuoyString x = Check.usedString();
        Check.due("none", x.storm(9, 3, 3), 0);
        Check.due("a dragged one alone", x.storm(10, 3, 3) + " " + x.buoy(3, 4), "8 2");
        Check.due("the others by a hit on one of them", x.storm(28, 1, 1), 7);
        Check.due("all", x.storm(99, 0, 3) + " " + Check.string(x), "15 0S 1S 2S 3D");
        Check.due("the last one alone", x.storm(99, 3, 3), 8);
        BuoyString ten = Check.stringOf(10);
        Check.due("all of ten", ten.storm(99, 0, 9) + " " + ten.size(4), "1023 10");
    }

    private static void stormOutOfRange() {
        Check.edge("Promise 33",
                "Throws `IndexOutOfBoundsException` if there is no such buoy; `IllegalArgumentException` "
                + "if force is not 1 to 99 or last is less than first");
        BuoyString x = Check.stringOf(4);
        for (int f : new int[] {0, 100, -1, LEAST, MOST}) {
            Check.refused("storm(" + f + ", 0, 3)", Check.ARGUMENT, () -> x.storm(f, 0, 3));
        }
        Check.refused("storm(1, 1, 0)", Check.ARGUMENT, () -> x.storm(1, 1, 0));
        Check.refused("storm(1, 3, 2)", Check.ARGUMENT, () -> x.storm(1, 3, 2));
        for (int b : NO_BUOYS) {
            Check.refused("storm(1, " + b + ", 3)", Check.INDEX, () -> x.storm(1, b, 3));
            Check.refused("storm(1, 0, " + b + ")", Check.INDEX, () -> x.storm(1, 0, b));
            Check.refused("storm(0, 3, " + b + ")", Check.INDEX, () -> x.storm(0, 3, b));
        }
        Check.due("no storm came", x.size(11) + " " + x.account(0) + " " + x.rope(0, 2), "0 0 0");
        Check.due("the same buoy first and last", x.storm(1, 3, 3) + " " + x.size(11), "0 1");
        Check.due("the least and the greatest force", x.storm(1, 0, 3) + " " + x.storm(99, 0, 3), "0 15");
    }

    private static void remakeLeavesStock() {
        Check.edge("Promise 34", "Remakes a rope; it can be broken or whole. Returns STOCK then");
        BuoyString x = Check.loaded("terms 5 2 2;buoy 0 1 99;buoy 7 1 99;buoy 20 1 99;stock 20;");
        x.storm(10, 0, 1);
        x.storm(11, 1, 2);
        Check.due("a whole one that is worn as far as can be", x.remake(0) + " " + x.rope(0, 2), "13 0");
        Check.due("a broken one, with the last of STOCK", x.remake(1) + " " + x.rope(1, 2) + x.rope(1, 3), "0 00");
        Check.due("what was used", x.size(16) + " " + x.size(15) + " " + x.account(0), "20 20 4");
    }

    private static void remakeOfWholeRope() {
        Check.edge("Promise 34", "minus the reason: 1 it is whole and its WEAR is 0");
        BuoyString x = Check.loaded("terms 5 2 2;buoy 0 1 99;buoy 7 1 99;stock 14;");
        Check.due("at first", x.remake(0) + " " + x.account(1), "-1 1");
        x.storm(1, 0, 1);
        Check.due("with a WEAR of 1", x.remake(0), 7);
        Check.due("without WEAR again", x.remake(0) + " " + x.size(7) + " " + x.account(1), "-1 7 2");
        x.storm(11, 0, 1);
        Check.due("broken", x.remake(0), 0);
        Check.due("reason 1 is ahead of reason 2", x.remake(0) + " " + x.account(1) + " " + x.account(2), "-1 3 0");
    }

    private static void remakeOfLongRope() {
        Check.edge("Promise 34", "2 its LENGTH is above STOCK");
        BuoyString x = Check.loaded("terms 5 2 2;buoy 0 1 99;buoy 9999 1 99;stock 9998;");
        x.storm(11, 0, 1);
        Check.due("one too few", x.remake(0) + " " + x.account(2) + " " + x.rope(0, 3) + " " + x.size(7),
                "-2 1 1 9998");
        x.addStock(1);
        Check.due("just enough", x.remake(0) + " " + x.account(2) + " " + x.rope(0, 3) + " " + x.size(7), "0 1 0 0");
        x.storm(1, 0, 1);
        Check.due("no STOCK", x.remake(0) + " " + x.account(2) + " " + x.rope(0, 2), "-2 2 1");
    }

    private static void remakeOfNoRope() {
        Check.edge("Promise 34", "Throws `IndexOutOfBoundsException` if there is no such rope");
        BuoyString x = Check.loaded(Check.setupOf(4) + "stock 99;");
        x.storm(11, 0, 3);
        for (int k : new int[] {-1, 3, 4, 9, 32, LEAST, MOST}) {
            Check.refused("remake(" + k + ")", Check.INDEX, () -> x.remake(k));
        }
        Check.due("the first and the last", x.remake(0) + " " + x.remake(2) + " " + x.size(6), "98 97 1");
    }

    private static void remakeByPlan() {
        Check.edge("Promise 35", "Remakes all ropes of the plan for a force. Returns how many ropes were remade");
        BuoyString x = Check.stringOf(10);
        x.storm(11, 0, 9);
        for (int b = 0; b < 10; b++) {
            x.setHold(b, b < 9 ? 0 : 99);
        }
        x.addStock(9);
        Check.due("all nine, with the last of STOCK", x.remakeBy(9) + " " + x.size(7) + " " + x.size(16), "9 0 9");
        Check.due("they are whole, without WEAR", x.size(6) + " " + x.rope(0, 2) + " " + x.rope(8, 2), "0 0 0");
        Check.due("it is one act", x.size(12) + " " + x.undo() + " " + x.size(6) + " " + x.size(7), "8 7 9 9");
    }

    private static void remakeByNoRope() {
        Check.edge("Promise 35", "(perhaps 0, which is an act, too)");
        BuoyString x = Check.stringOf(3);
        x.storm(3, 0, 2);
        Check.due("no rope", x.remakeBy(9) + " " + x.remakeBy(1), "0 0");
        Check.due("acts", x.account(0) + " " + x.size(12) + " " + x.account(3), "3 3 0");
        Check.due("worn ropes stay worn", x.rope(0, 2) + " " + x.size(16), "3 0");
    }

    private static void remakeByNoPlan() {
        Check.edge("Promise 35",
                "minus the reason: 3 there is no plan. Throws `IllegalArgumentException` if force is not "
                + "1 to 99");
        BuoyString x = Check.stringOf(2);
        Check.due("9 times 2, and 10 times 2", x.remakeBy(9) + " " + x.remakeBy(10), "0 -3");
        Check.due("the accounts", Check.accounts(x), "1 0 0 1 0");
        x.storm(11, 0, 1);
        x.setHold(0, 0);
        x.setHold(1, 2);
        Check.due("no STOCK", x.remakeBy(1) + " " + x.account(3), "-3 2");
        x.addStock(1);
        Check.due("just enough", x.remakeBy(1) + " " + x.account(3), "1 2");
        for (int f : new int[] {0, 100, -1, LEAST, MOST}) {
            Check.refused("remakeBy(" + f + ")", Check.ARGUMENT, () -> x.remakeBy(f));
        }
        Check.due("the greatest", x.remakeBy(99) + " " + x.account(3), "-3 3");
    }

    private static void haulLeavesDragged() {
        Check.edge("Promise 36",
                "it becomes suspect, with STRIKES 0, AGREED 0 and SINCE NONE. Returns how many buoys are "
                + "still dragged then");
        BuoyString x = Check.stringOf(7);
        Check.play(x, "hour;hour 0 0 1 0 2 0 3 0 4 50 5 90 6 -50;hour 0 0 1 0 2 0 3 0 4 50 5 90 6 -50;");
        Check.due("three are dragged", x.size(5) + " " + Check.buoy(x, 4, 4, 5, 6, 7), "3 2 2 0 1");
        Check.due("haul()", x.haul(4) + " " + Check.buoy(x, 4, 4, 5, 6, 7), "2 1 0 0 -1");
        Check.due("the others stay", Check.buoy(x, 5, 4, 5, 6, 7), "2 2 0 1");
        Check.due("the last ones", x.haul(6) + " " + x.haul(5) + " " + x.size(4), "1 0 3");
    }

    private static void haulOfOthers() {
        Check.edge("Promise 36",
                "minus the reason: 1 it is not dragged. Throws `IndexOutOfBoundsException` if there is no "
                + "such buoy");
        BuoyString x = Check.usedString();
        Check.due("a trusted one", x.haul(0) + " " + x.account(1) + " " + x.buoy(0, 4), "-1 1 0");
        Check.due("a dragged one, and once more", x.haul(3) + " " + x.haul(3) + " " + x.account(1), "0 -1 2");
        Check.due("it is suspect", x.buoy(3, 4), 1);
        for (int b : NO_BUOYS) {
            Check.refused("haul(" + b + ")", Check.INDEX, () -> x.haul(b));
        }
        Check.due("the accounts", x.account(1), 2);
    }

    private static void haulLeavesHours() {
        Check.edge("Promise 36", "Kept hours stay as they are.");
        BuoyString x = Check.usedString();
        String hours = Check.told(x, 0) + Check.told(x, 1) + x.why(0, 3) + x.why(1, 3) + x.size(14);
        x.haul(3);
        Check.due("hours 0 and 1", Check.told(x, 0) + Check.told(x, 1) + x.why(0, 3) + x.why(1, 3) + x.size(14),
                hours);
        Check.play(x, "hour 0 0 1 0 2 0 3 0;hour 0 0 1 0 2 0 3 0;");
        Check.due("it won its votes back", x.buoy(3, 4), 0);
        Check.play(x, "hour 0 0 1 0 2 0 3 50;hour 0 0 1 0 2 0 3 50;");
        Check.due("dragged again, from hour 4 on", x.buoy(3, 4) + " " + x.buoy(3, 7) + " " + x.size(14), "2 4 4");
        Check.due("hours 0 and 1 still", Check.told(x, 0) + ", " + Check.told(x, 1), "7 7 1 4 8 0, 7 7 1 4 8 0");
        Check.due("hour 3", Check.told(x, 3), "7 7 1 4 0 0");
    }

    private static void addStockInRange() {
        Check.edge("Promise 37", "`ropes`: 1 to 9999. Throws `IllegalArgumentException` if ropes is out of range");
        BuoyString x = Check.stringOf(2);
        Check.due("the least and the greatest", x.addStock(1) + " " + x.addStock(9999), "1 10000");
        for (int n : new int[] {0, -1, 10000, LEAST, MOST}) {
            Check.refused("addStock(" + n + ")", Check.ARGUMENT, () -> x.addStock(n));
        }
        Check.due("STOCK", x.size(7) + " " + x.size(15) + " " + Check.accounts(x), "10000 10000 2 0 0 0 0");
    }

    private static void addStockAbove() {
        Check.edge("Promise 37", "minus the reason: 4 it would be above 99999");
        BuoyString x = Check.loaded(Check.setupOf(2) + "stock 90000;");
        Check.due("just enough", x.addStock(9999), 99999);
        Check.due("one too much", x.addStock(1) + " " + x.size(7) + " " + x.size(15) + " " + x.account(4),
                "-4 99999 99999 1");
        x.undo();
        x.addStock(1);
        Check.due("one too much", x.addStock(9999) + " " + x.size(7) + " " + x.account(4), "-4 90001 2");
        Check.due("just enough", x.addStock(9998), 99999);
    }

    private static void offsetThatItHad() {
        Check.edge("Promise 38", "Returns the OFFSET that it had, plus 99.");
        BuoyString x = Check.loaded("terms 5 2 2;buoy 0 1 9 -99;buoy 1 1 9 99;");
        Check.due("the least one", x.setOffset(0, 99) + " " + x.buoy(0, 3), "0 99");
        Check.due("the greatest one", x.setOffset(0, -99) + " " + x.buoy(0, 3), "198 -99");
        Check.due("those of buoy 1", x.setOffset(1, 0) + " " + x.setOffset(1, -1) + " " + x.setOffset(1, -1),
                "198 99 98");
        Check.due("buoy 0 stays", x.buoy(0, 3), -99);
    }

    private static void offsetOutOfRange() {
        Check.edge("Promise 38",
                "Throws `IndexOutOfBoundsException` if there is no such buoy; `IllegalArgumentException` "
                + "if offset is out of range");
        BuoyString x = Check.stringOf(4);
        for (int b : NO_BUOYS) {
            Check.refused("setOffset(" + b + ", 0)", Check.INDEX, () -> x.setOffset(b, 0));
            Check.refused("setOffset(" + b + ", 100)", Check.INDEX, () -> x.setOffset(b, 100));
        }
        for (int o : new int[] {-100, 100, LEAST, MOST}) {
            Check.refused("setOffset(3, " + o + ")", Check.ARGUMENT, () -> x.setOffset(3, o));
        }
        Check.due("the OFFSET stays", x.buoy(3, 3) + " " + x.account(0), "0 0");
    }

    private static void offsetWhenHourEnds() {
        Check.edge("Promise 38",
                "Kept hours stay as they are; the hour that runs counts with the OFFSET that there is when "
                + "it ends.");
        BuoyString x = Check.stringOf(2);
        Check.play(x, "hour 0 9999;");
        x.report(0, 9999);
        x.setOffset(0, 50);
        x.setOffset(0, -99);
        Check.due("the kept hour", x.value(0, 0) + " " + x.level(0), "9999 9999");
        Check.due("the hour that runs", x.levelNow() + " " + x.buoy(0, 9), "10098 9999");
        x.endHour();
        x.setOffset(0, 0);
        Check.due("when it ended", x.value(1, 0) + " " + x.level(1), "10098 10098");
    }

    private static void holdThatItHad() {
        Check.edge("Promise 39", "Returns the HOLD that it had.");
        BuoyString x = Check.loaded("terms 5 2 2;buoy 0 1 0;buoy 1 1 99;");
        Check.due("the least one", x.setHold(0, 99) + " " + x.buoy(0, 2), "0 99");
        Check.due("the greatest one", x.setHold(0, 0) + " " + x.buoy(0, 2), "99 0");
        Check.due("the same one", x.setHold(1, 99) + " " + x.setHold(1, 99) + " " + x.account(0), "99 99 4");
    }

    private static void holdOutOfRange() {
        Check.edge("Promise 39",
                "Throws `IndexOutOfBoundsException` if there is no such buoy; `IllegalArgumentException` "
                + "if hold is out of range");
        BuoyString x = Check.stringOf(4);
        for (int b : NO_BUOYS) {
            Check.refused("setHold(" + b + ", 0)", Check.INDEX, () -> x.setHold(b, 0));
            Check.refused("setHold(" + b + ", -1)", Check.INDEX, () -> x.setHold(b, -1));
        }
        for (int h : new int[] {-1, 100, LEAST, MOST}) {
            Check.refused("setHold(3, " + h + ")", Check.ARGUMENT, () -> x.setHold(3, h));
        }
        Check.due("the HOLD stays", x.buoy(3, 2) + " " + x.account(0), "9 0");
    }

    private static void toleranceThatThereWas() {
        Check.edge("Promise 40", "Returns the TOLERANCE that there was.");
        BuoyString x = Check.stringOf(2);
        Check.due("the least terms", x.setTerms(0, 1, 1) + ", " + x.size(8) + " " + x.size(9) + " " + x.size(10),
                "5, 0 1 1");
        Check.due("the greatest terms", x.setTerms(999, 9, 9) + ", " + x.size(8) + " " + x.size(9) + " " + x.size(10),
                "0, 999 9 9");
        Check.due("others", x.setTerms(7, 3, 4) + ", " + x.size(8) + " " + x.size(9) + " " + x.size(10),
                "999, 7 3 4");
    }

    private static void termsOutOfRange() {
        Check.edge("Promise 40", "Throws `IllegalArgumentException` if one of them is out of range");
        BuoyString x = Check.stringOf(2);
        for (int t : new int[] {-1, 1000, LEAST, MOST}) {
            Check.refused("setTerms(" + t + ", 1, 1)", Check.ARGUMENT, () -> x.setTerms(t, 1, 1));
        }
        for (int n : new int[] {0, 10, -1, LEAST, MOST}) {
            Check.refused("setTerms(0, " + n + ", 1)", Check.ARGUMENT, () -> x.setTerms(0, n, 1));
            Check.refused("setTerms(0, 1, " + n + ")", Check.ARGUMENT, () -> x.setTerms(0, 1, n));
            Check.refused("setTerms(0, " + n + ", " + n + ")", Check.ARGUMENT, () -> x.setTerms(0, n, n));
        }
        Check.due("the terms stay", x.size(8) + " " + x.size(9) + " " + x.size(10) + " " + x.account(0), "5 2 2 0");
    }

    private static void termsChangeNothingElse() {
        Check.edge("Promise 40", "Nothing else changes by this at once.");
        BuoyString x = Check.stringOf(5);
        x.setTerms(5, 9, 9);
        x.storm(11, 3, 4);
        Check.play(x, "hour 0 0 1 5 2 50 4 0;hour 0 0 1 5 2 50 4 0;");
        String before = Check.world(x).replace("5 9 9", "0 1 1");
        x.setTerms(0, 1, 1);
        Check.due("with the least terms", Check.world(x), before);
        Check.due("STRIKES and AGREED", Check.buoy(x, 2, 4, 5) + ", " + Check.buoy(x, 4, 4, 6), "0 2, 1 2");
        Check.due("the hours", Check.told(x, 0), "7 3 1 4 0 2");
    }
}
