/** Promises 11 to 21, kept hours and levels that would be: a test for each sentence with a boundary. */
public final class PromisesFrom11Test {
    private static final int LEAST = Integer.MIN_VALUE;
    private static final int MOST = Integer.MAX_VALUE;

    public static void main(String[] args) {
        hourInRange();
        votersAsTheyAreNow();
        supportersWithoutLevel();
        reportedInHour();
        levelOfHour();
        levelAsItIsNow();
        valueOfBuoy();
        valueOfNoReport();
        whyInLevel();
        whyNotReported();
        whySuspectOrDragged();
        whyVoter();
        whyOfNoHour();
        tideOfLevels();
        tideSkipsHoursWithoutLevel();
        tideWithoutHourAhead();
        tideAsLevelsAreNow();
        extremeOfNone();
        extremeEarliest();
        extremeOfKeptHours();
        meanOfNone();
        meanOfLevels();
        agreementOfNoVoters();
        agreementAsTheyAreNow();
        levelNowWithoutLevel();
        levelNowAtTheEnd();
        levelWithoutMembers();
        levelWithoutLevel();
        levelWithoutToleranceOfNow();
        neededOfHour();
        neededWithoutLevel();
        Check.end("PromisesFrom11Test");
    }

    private static void hourInRange() {
        Check.edge("Promise 11",
                "Throws `IndexOutOfBoundsException` if the hour is not kept; `IllegalArgumentException` "
                + "if what is out of range");
        BuoyString x = Check.stringOf(2);
        for (int what : new int[] {-1, 0, 4, 5}) {
            Check.refused("hour(0, " + what + ") without hours", Check.INDEX, () -> x.hour(0, what));
        }
        Check.play(x, "hour 0 1;".repeat(25));
        Check.due("the earliest and the latest", x.hour(1, 0) + " " + x.hour(24, 4), "1 0");
        for (int hour : new int[] {0, 25, -1, LEAST, MOST}) {
            Check.refused("hour(" + hour + ", 0)", Check.INDEX, () -> x.hour(hour, 0));
        }
        for (int what : new int[] {-1, 5, LEAST, MOST}) {
            Check.refused("hour(1, " + what + ")", Check.ARGUMENT, () -> x.hour(1, what));
        }
    }

    private static void votersAsTheyAreNow() {
        Check.edge("Promise 11",
                "0 its voters as they are now (without those that were taken out), as a set; 4 the voters "
                + "that were taken out of it, as a set");
        BuoyString x = Check.stringOf(10);
        Check.play(x, "hour 0 0 1 0 2 0 3 0 4 0 5 0 6 0 7 0 8 50 9 50;");
        Check.due("all ten", x.hour(0, 0) + " " + x.hour(0, 4), "1023 0");
        Check.play(x, "hour 0 0 1 0 8 50;");
        Check.due("without one", x.hour(0, 0) + " " + x.hour(0, 4), "767 256");
        Check.play(x, "hour 0 0 1 0 9 50;");
        Check.due("without two", x.hour(0, 0) + " " + x.hour(0, 4), "255 768");
        x.haul(8);
        x.haul(9);
        Check.due("though they are hauled", x.hour(0, 0) + " " + x.hour(0, 4), "255 768");
        x.endHour();
        Check.due("an hour without voters", x.hour(3, 0) + " " + x.hour(3, 1) + " " + x.hour(3, 4), "0 0 0");
    }

    private static void supportersWithoutLevel() {
        Check.edge("Promise 11",
                "1 its supporters as they are now, as a set (also if it has no level), 2 1 if it has a "
                + "level, otherwise 0");
        BuoyString x = Check.stringOf(4);
        Check.hour(x, "0 0 1 50 2 90 3 95", "15 2 0 4 0 ?");
        Check.hour(x, "0 0 1 50", "3 1 0 2 0 ?");
        Check.hour(x, "0 0 1 5 2 10", "7 7 1 3 0 5");
    }

    private static void reportedInHour() {
        Check.edge("Promise 11", "3 how many buoys reported in it");
        BuoyString x = Check.usedString();
        Check.hour(x, "3 9", "1 1 1 2 0 5");
        Check.hour(x, "3 9", "0 0 0 1 0 ?");
        Check.hour(x, "0 0 1 0 2 0 3 9", "7 7 1 4 0 0");
        Check.hour(x, "", "0 0 0 0 0 ?");
        Check.due("those that were taken out count", x.hour(0, 3) + " " + x.hour(0, 4), "4 8");
    }

    private static void levelOfHour() {
        Check.edge("Promise 12",
                "Throws `IndexOutOfBoundsException` if the hour is not kept; `NoSuchElementException` "
                + "if it has no level");
        BuoyString x = Check.stringOf(2);
        Check.refused("level(0) without hours", Check.INDEX, () -> x.level(0));
        Check.play(x, "hour;hour 0 0;hour 0 0 1 50;");
        Check.refused("level(0)", Check.NO_ELEMENT, () -> x.level(0));
        Check.due("a level of 0", x.level(1), 0);
        Check.refused("level(2)", Check.NO_ELEMENT, () -> x.level(2));
        for (int hour : new int[] {-1, 3, LEAST, MOST}) {
            Check.refused("level(" + hour + ")", Check.INDEX, () -> x.level(hour));
        }
        Check.play(x, "hour;".repeat(23));
        Check.refused("level(1), no more kept", Check.INDEX, () -> x.level(1));
        Check.refused("level(2), still kept", Check.NO_ELEMENT, () -> x.level(2));
    }

    private static void levelAsItIsNow() {
        Check.edge("Promise 12", "Returns its level as it is now.");
        BuoyString x = Check.stringOf(4);
        Check.play(x, "hour 0 0 1 5 2 6 3 90;");
        // the middle is 5, and the level that of 0, 5 and 6
        Check.due("ahead of it", x.level(0), 3);
        x.setTerms(4, 2, 2);
        Check.due("setTerms() does not change it", x.level(0), 3);
        Check.play(x, "hour 0 0 1 0 2 0 3 90;");
        Check.due("told anew", x.level(0), 5);
        x.undo();
        Check.due("behind undo()", x.level(0), 3);
    }

    private static void valueOfBuoy() {
        Check.edge("Promise 13", "Returns the value that this buoy had in this hour.");
        BuoyString x = Check.loaded("terms 5 1 9;buoy 0 1 9 -99;buoy 1 1 9 99;buoy 2 1 9;buoy 3 1 9;rope 2 1;");
        x.storm(10, 2, 3);
        Check.play(x, "hour 0 9999 1 -9999;hour 0 -99 1 99 2 50 3 0;hour 2 7;");
        Check.due("the greatest and the least", x.value(0, 0) + " " + x.value(0, 1), "10098 -10098");
        Check.due("values of 0", x.value(1, 0) + " " + x.value(1, 1), "0 0");
        Check.due("one that was taken out, a suspect one, a dragged one",
                x.value(1, 2) + " " + x.value(1, 3) + " " + x.value(2, 2), "50 0 7");
        x.setOffset(0, 0);
        Check.due("with the OFFSET of that hour", x.value(0, 0), 10098);
    }

    private static void valueOfNoReport() {
        Check.edge("Promise 13", "Throws `NoSuchElementException` if it did not report in this hour");
        BuoyString x = Check.stringOf(3);
        Check.play(x, "hour 0 7 2 7;hour 1 7;" + "hour;".repeat(22) + "hour 1 9;");
        Check.refused("value(1, 0)", Check.NO_ELEMENT, () -> x.value(1, 0));
        Check.due("value(1, 1)", x.value(1, 1), 7);
        Check.refused("value(1, 2)", Check.NO_ELEMENT, () -> x.value(1, 2));
        Check.refused("value(24, 0) in the place of hour 0", Check.NO_ELEMENT, () -> x.value(24, 0));
        for (int hour : new int[] {0, 25, -1, LEAST, MOST}) {
            Check.refused("value(" + hour + ", 1)", Check.INDEX, () -> x.value(hour, 1));
        }
        for (int b : new int[] {-1, 3, 10, LEAST, MOST}) {
            Check.refused("value(1, " + b + ")", Check.INDEX, () -> x.value(1, b));
        }
        x.report(0, 5);
        Check.refused("value(25, 0) of the hour that runs", Check.INDEX, () -> x.value(25, 0));
    }

    private static void whyInLevel() {
        Check.edge("Promise 14", "0 it is in the level");
        BuoyString x = Check.stringOf(3);
        Check.play(x, "hour 0 0 1 5 2 -5;hour 2 9999;");
        Check.due("as far from the middle as can be", "" + x.why(0, 0) + x.why(0, 1) + x.why(0, 2), "000");
        Check.due("alone", "" + x.why(1, 0) + x.why(1, 1) + x.why(1, 2), "110");
    }

    private static void whyNotReported() {
        Check.edge("Promise 14", "1 the buoy did not report");
        BuoyString x = Check.usedString();
        Check.play(x, "hour 1 5;");
        Check.due("a trusted one, a dragged one", x.why(2, 2) + " " + x.why(2, 3), "1 1");
        Check.due("two that did", x.why(2, 0) + " " + x.why(2, 1), "0 0");
        x.storm(99, 0, 0);
        Check.play(x, "hour 0 5;");
        Check.due("suspect ones", x.why(3, 1) + " " + x.why(3, 2), "1 1");
        Check.due("a suspect one that did", x.why(3, 0), 2);
    }

    private static void whySuspectOrDragged() {
        Check.edge("Promise 14", "2 it was suspect when the hour ended, ahead of (5); 3 it was dragged then");
        BuoyString x = Check.stringOf(4);
        x.setTerms(5, 1, 1);
        x.storm(11, 2, 3);
        Check.play(x, "hour 0 0 1 0 2 50 3 0;");
        Check.due("the string", Check.string(x), "0T-1T-2D 3T");
        Check.due("it became trusted in (5)", x.why(0, 3), 2);
        Check.due("it became dragged in (5)", x.why(0, 2), 5);
        Check.play(x, "hour 0 0 1 0 2 0 3 0;");
        Check.due("it was dragged, it was trusted", x.why(1, 2) + " " + x.why(1, 3), "3 0");
        x.haul(2);
        Check.play(x, "hour 0 0 1 0 2 50;hour 2 50;");
        Check.due("it is hauled", x.why(2, 2) + " " + x.why(3, 2) + " " + x.why(1, 2), "2 2 3");
        x.storm(99, 3, 3);
        Check.due("states of now do not matter", x.why(1, 3) + " " + x.why(0, 3), "0 2");
    }

    private static void whyVoter() {
        Check.edge("Promise 14",
                "4 it is a voter of an hour that has a level, but no supporter; 5 it was a voter, but was "
                + "taken out since; 6 it is a voter (a supporter or not), but the hour has no level");
        BuoyString x = Check.stringOf(4);
        Check.play(x, "hour 0 0 1 0 2 0 3 6;hour 0 0 3 50;");
        Check.due("no supporter", x.why(0, 3), 4);
        Check.due("no level", x.why(1, 0) + " " + x.why(1, 3), "6 6");
        Check.play(x, "hour 0 0 1 0 2 0 3 -6;");
        Check.due("taken out", "" + x.why(0, 3) + x.why(1, 3) + x.why(2, 3), "555");
        Check.due("the other one of hour 1, which has a level now", x.why(1, 0), 0);
    }

    private static void whyOfNoHour() {
        Check.edge("Promise 14", "Throws `IndexOutOfBoundsException` if the hour is not kept or there is no such "
                + "buoy");
        BuoyString x = Check.stringOf(3);
        Check.refused("why(0, 0) without hours", Check.INDEX, () -> x.why(0, 0));
        Check.play(x, "hour 2 5;".repeat(25));
        Check.due("the earliest and the latest", x.why(1, 2) + " " + x.why(24, 0), "0 1");
        for (int hour : new int[] {0, 25, -1, LEAST, MOST}) {
            Check.refused("why(" + hour + ", 2)", Check.INDEX, () -> x.why(hour, 2));
        }
        for (int b : new int[] {-1, 3, 10, LEAST, MOST}) {
            Check.refused("why(1, " + b + ")", Check.INDEX, () -> x.why(1, b));
        }
    }

    private static void tideOfLevels() {
        Check.edge("Promise 15", "Returns 1 if its level is greater, -1 if it is less, 0 if both are equal.");
        BuoyString x = Check.stringOf(2);
        Check.play(x, "hour 0 0;hour 0 1;hour 0 0;hour 0 0;hour 0 -9999;hour 0 9999;hour 0 -1;");
        Check.due("by one, and not at all", x.tide(1) + " " + x.tide(2) + " " + x.tide(3), "1 -1 0");
        Check.due("by as much as can be", x.tide(4) + " " + x.tide(5) + " " + x.tide(6), "-1 1 -1");
    }

    private static void tideSkipsHoursWithoutLevel() {
        Check.edge("Promise 15",
                "Compares the level of an hour with that of the latest kept hour ahead of it that has a "
                + "level.");
        BuoyString x = Check.stringOf(2);
        Check.play(x, "hour 0 9;hour 0 3;hour;hour 0 0 1 50;hour 0 5;");
        Check.due("hour 1, not hour 0", x.tide(4), 1);
        Check.play(x, "hour;".repeat(20));
        Check.due("as long as hour 1 is kept", x.tide(4) + " " + (x.size(1) - x.size(2)), "1 1");
        x.endHour();
        Check.refused("when hour 1 is no more kept", Check.NO_ELEMENT, () -> x.tide(4));
        Check.play(x, "hour 0 4;");
        Check.due("the latest one", x.tide(26), -1);
    }

    private static void tideWithoutHourAhead() {
        Check.edge("Promise 15", "Throws `NoSuchElementException` if it has no level, or there is no such hour "
                + "ahead of it");
        BuoyString x = Check.stringOf(2);
        Check.refused("tide(0) without hours", Check.INDEX, () -> x.tide(0));
        Check.play(x, "hour 0 5;hour;hour 0 5;");
        Check.refused("tide(0), the first one", Check.NO_ELEMENT, () -> x.tide(0));
        Check.refused("tide(1), without a level", Check.NO_ELEMENT, () -> x.tide(1));
        Check.due("tide(2)", x.tide(2), 0);
        for (int hour : new int[] {-1, 3, LEAST, MOST}) {
            Check.refused("tide(" + hour + ")", Check.INDEX, () -> x.tide(hour));
        }
        Check.play(x, "hour 0 5;".repeat(22));
        Check.refused("tide(0), no more kept", Check.INDEX, () -> x.tide(0));
        Check.refused("tide(2), the first one with a level", Check.NO_ELEMENT, () -> x.tide(2));
        Check.due("tide(3) and tide(24)", x.tide(3) + " " + x.tide(24), "0 0");
    }

    private static void tideAsLevelsAreNow() {
        Check.edge("Promise 15", "its level is greater");
        BuoyString x = Check.stringOf(4);
        Check.play(x, "hour 0 2 1 2 2 2 3 50;hour 0 0 3 50;hour 0 1;");
        Check.refused("hour 1 has no level", Check.NO_ELEMENT, () -> x.tide(1));
        Check.due("hour 2 and hour 0", x.tide(2), -1);
        Check.play(x, "hour 0 1 1 1 2 1 3 50;");
        Check.due("hour 1 has one now", x.tide(1) + " " + x.tide(2) + " " + x.tide(3), "-1 1 0");
    }

    private static void extremeOfNone() {
        Check.edge("Promise 16", "NONE if no kept hour has a level");
        BuoyString x = Check.stringOf(2);
        Check.due("without hours", x.extreme(true) + " " + x.extreme(false), "-1 -1");
        Check.play(x, "hour 0 0 1 50;");
        Check.due("without levels", x.extreme(true) + " " + x.extreme(false), "-1 -1");
        Check.play(x, "hour 0 0;");
        Check.due("with one level, of 0", x.extreme(true) + " " + x.extreme(false), "1 1");
        Check.play(x, "hour;".repeat(24));
        Check.due("when it is no more kept", x.extreme(true) + " " + x.extreme(false), "-1 -1");
    }

    private static void extremeEarliest() {
        Check.edge("Promise 16", "Returns the kept hour with this level, the earliest one of several");
        BuoyString x = Check.stringOf(2);
        Check.play(x, "hour 0 3;hour 0 7;hour 0 -2;hour 0 7;hour 0 -2;hour 0 3;");
        Check.due("of two each", x.extreme(true) + " " + x.extreme(false), "2 1");
        BuoyString y = Check.stringOf(2);
        Check.play(y, "hour 0 -5;hour 0 -5;hour 0 -5;");
        Check.due("of three equal ones below 0", y.extreme(true) + " " + y.extreme(false), "0 0");
        Check.play(y, "hour 0 -9999;hour 0 9999;");
        Check.due("the farthest", y.extreme(true) + " " + y.extreme(false), "3 4");
    }

    private static void extremeOfKeptHours() {
        Check.edge("Promise 16", "Returns the kept hour with this level");
        BuoyString x = Check.stringOf(2);
        Check.play(x, "hour 0 9;hour 0 -9;" + "hour 0 1;".repeat(22));
        Check.due("24 hours", x.extreme(true) + " " + x.extreme(false), "1 0");
        Check.play(x, "hour 0 1;");
        Check.due("25 hours: the earliest of those with 1 is hour 2", x.extreme(true) + " " + x.extreme(false),
                "1 2");
        Check.play(x, "hour 0 1;");
        Check.due("26 hours", x.extreme(true) + " " + x.extreme(false), "2 2");
        Check.play(x, "hour 0 1;hour 0 0;hour 0 2;");
        Check.due("29 hours", x.extreme(true) + " " + x.extreme(false), "27 28");
    }

    private static void meanOfNone() {
        Check.edge("Promise 17", "0.0 if there are none");
        BuoyString x = Check.stringOf(2);
        Check.due("without hours", x.meanLevel(), 0.0);
        Check.play(x, "hour 0 0 1 50;hour;");
        Check.due("without levels", x.meanLevel(), 0.0);
        Check.play(x, "hour 0 7;");
        Check.due("with one", x.meanLevel(), 7.0);
        Check.play(x, "hour;".repeat(24));
        Check.due("when it is no more kept", x.meanLevel(), 0.0);
    }

    private static void meanOfLevels() {
        Check.edge("Promise 17",
                "Returns the sum of the levels of all kept hours that have one, divided by the number of "
                + "these hours, both converted to double");
        BuoyString x = Check.stringOf(2);
        Check.play(x, "hour 0 1;hour;hour 0 0;hour 0 0;");
        Check.due("a third", x.meanLevel(), 1.0 / 3.0);
        Check.play(x, "hour 0 -3;hour 0 0;");
        Check.due("below 0", x.meanLevel(), -2.0 / 5.0);
        BuoyString y = Check.loaded("terms 5 2 2;buoy 0 1 9 -99;buoy 1 1 9;");
        Check.play(y, "hour 0 9999;".repeat(24));
        Check.due("24 of the greatest", y.meanLevel(), 10098.0);
        Check.play(y, "hour 1 0;");
        Check.due("and a 0 instead of one", y.meanLevel(), 10098.0 * 23.0 / 24.0);
    }

    private static void agreementOfNoVoters() {
        Check.edge("Promise 18", "0.0f if it has no voters; Throws `IndexOutOfBoundsException` if the hour is not "
                + "kept");
        BuoyString x = Check.usedString();
        Check.play(x, "hour;hour;hour 3 5;");
        Check.due("no report, and that of a dragged one", x.agreement(3) + " " + x.agreement(4), "0.0 0.0");
        for (int hour : new int[] {-1, 5, LEAST, MOST}) {
            Check.refused("agreement(" + hour + ")", Check.INDEX, () -> x.agreement(hour));
        }
        Check.play(x, "hour;".repeat(20));
        Check.refused("agreement(0), no more kept", Check.INDEX, () -> x.agreement(0));
        Check.due("agreement(1), still kept", x.agreement(1), 1.0f);
    }

    private static void agreementAsTheyAreNow() {
        Check.edge("Promise 18",
                "Returns the VOTEs of its supporters divided by the VOTEs of its voters, as they are now, "
                + "both converted to float");
        BuoyString x = Check.loaded("terms 5 2 2;buoy 0 1 9;buoy 1 1 9;buoy 2 9 9;buoy 3 4 9;");
        Check.play(x, "hour 0 0 1 6 2 0 3 50;");
        Check.due("10 of 15", x.agreement(0), 10.0f / 15.0f);
        Check.play(x, "hour 0 0 1 50;");
        Check.due("without a level", x.agreement(1), 1.0f / 2.0f);
        Check.play(x, "hour 0 0 1 0 2 0 3 50;");
        Check.due("10 of 11, as buoy 3 is taken out", x.agreement(0) + " " + x.agreement(2), 10.0f / 11.0f + " 1.0");
    }

    private static void levelNowWithoutLevel() {
        Check.edge("Promise 19", "Throws `NoSuchElementException` if it would have none");
        BuoyString x = Check.usedString();
        Check.due("one report", x.levelNow(), 5);
        x.undo();
        Check.refused("no report", Check.NO_ELEMENT, () -> x.levelNow());
        x.report(3, 7);
        Check.refused("that of a dragged one", Check.NO_ELEMENT, () -> x.levelNow());
        x.report(0, 0);
        x.report(1, 6);
        Check.refused("two that differ", Check.NO_ELEMENT, () -> x.levelNow());
        x.report(1, 5);
        Check.due("two that do not", x.levelNow(), 2);
    }

    private static void levelNowAtTheEnd() {
        Check.edge("Promise 19", "Returns the level that the hour that runs would have by (3) if it ended now.");
        BuoyString x = Check.loaded("terms 5 1 2;buoy 0 1 9;buoy 1 1 9 -1;buoy 2 1 9;");
        x.report(0, -1);
        x.report(1, -3);
        Check.due("rounded down", x.levelNow(), -2);
        x.report(2, 90);
        String before = Check.everything(x);
        Check.due("with one that is outvoted", x.levelNow(), -2);
        Check.due("nothing changes", Check.everything(x), before);
        x.setOffset(1, 99);
        Check.refused("with the OFFSET of now", Check.NO_ELEMENT, () -> x.levelNow());
        x.setTerms(999, 1, 2);
        Check.due("with the TOLERANCE of now", x.levelNow(), -5);
        x.endHour();
        Check.due("the level", x.level(0), -5);
    }

    private static void levelWithoutMembers() {
        Check.edge("Promise 20", "(members that do not exist, or are no voters, do not matter)");
        BuoyString x = Check.stringOf(4);
        x.storm(11, 2, 3);
        Check.play(x, "hour 0 0 1 3 3 90;");
        Check.due("none is left out", x.levelWithout(0, 0), 1);
        Check.due("one of two", x.levelWithout(0, 1) + " " + x.levelWithout(0, 2), "3 0");
        Check.due("one that did not report, and a suspect one", x.levelWithout(0, 12), 1);
        Check.due("buoys that do not exist", x.levelWithout(0, 1008) + " " + x.levelWithout(0, LEAST) + " "
                + x.levelWithout(0, 0x7ffffff0) + " " + x.levelWithout(0, -16), "1 1 1 1");
        Check.due("all but one", x.levelWithout(0, -2) + " " + x.levelWithout(0, MOST - 2), "0 3");
        Check.refused("all", Check.NO_ELEMENT, () -> x.levelWithout(0, -1));
    }

    private static void levelWithoutLevel() {
        Check.edge("Promise 20",
                "Throws `IndexOutOfBoundsException` if the hour is not kept; `NoSuchElementException` if "
                + "there would be none");
        BuoyString x = Check.stringOf(3);
        Check.refused("levelWithout(0, 0) without hours", Check.INDEX, () -> x.levelWithout(0, 0));
        Check.play(x, "hour;hour 0 0 1 50;hour 0 0 1 5 2 10;");
        Check.refused("an hour without reports", Check.NO_ELEMENT, () -> x.levelWithout(0, 0));
        Check.refused("an hour without a level", Check.NO_ELEMENT, () -> x.levelWithout(1, 0));
        Check.due("it would have one", x.levelWithout(1, 1) + " " + x.levelWithout(1, 2), "50 0");
        Check.due("an hour with a level", x.levelWithout(2, 0), 5);
        Check.refused("it would have none", Check.NO_ELEMENT, () -> x.levelWithout(2, 2));
        for (int hour : new int[] {-1, 3, LEAST, MOST}) {
            Check.refused("levelWithout(" + hour + ", 0)", Check.INDEX, () -> x.levelWithout(hour, 0));
        }
        Check.play(x, "hour;".repeat(23));
        Check.refused("levelWithout(1, 1), no more kept", Check.INDEX, () -> x.levelWithout(1, 1));
        Check.due("levelWithout(2, 0), still kept", x.levelWithout(2, 0), 5);
    }

    private static void levelWithoutToleranceOfNow() {
        Check.edge("Promise 20", "Tells the level that (2) and (3) give for an hour, with TOLERANCE as it is now");
        BuoyString x = Check.stringOf(4);
        Check.play(x, "hour 0 0 1 5 2 9 3 90;hour 0 0 1 0 2 0 3 90;");
        Check.due("those that were taken out stay out", x.hour(0, 0) + " " + x.levelWithout(0, 0), "7 4");
        x.setTerms(3, 2, 2);
        Check.refused("with a lesser one", Check.NO_ELEMENT, () -> x.levelWithout(0, 0));
        x.setTerms(4, 2, 2);
        Check.due("with one that is just enough", x.levelWithout(0, 0) + " " + x.levelWithout(0, 1), "7 7");
        Check.due("the hour stays", Check.told(x, 0), "7 7 1 4 8 4");
    }

    private static void neededOfHour() {
        Check.edge("Promise 21", "Returns its voters without each of which alone there would be no level, by "
                + "levelWithout()");
        BuoyString x = Check.loaded("terms 5 9 9;buoy 0 1 9;buoy 1 1 9;buoy 2 1 9;buoy 3 2 9;");
        Check.play(x, "hour 0 7;hour 0 0 1 0 2 50;hour 0 0 1 0 2 0;hour 0 0 1 5 2 10;hour 0 0 3 50;");
        Check.due("the only voter", x.needed(0), 1);
        Check.due("two of three", x.needed(1), 3);
        Check.due("none of three", x.needed(2), 0);
        Check.due("the one in the middle", x.needed(3), 2);
        Check.due("the one with more votes", x.needed(4), 0);
        x.setTerms(10, 9, 9);
        Check.due("with TOLERANCE as it is now", x.needed(3), 0);
        Check.refused("needed(5)", Check.INDEX, () -> x.needed(5));
        Check.refused("needed(-1)", Check.INDEX, () -> x.needed(-1));
        BuoyString ten = Check.stringOf(10);
        ten.setTerms(5, 9, 9);
        Check.play(ten,
                "hour 0 0 1 0 2 0 3 0 4 0 5 0 6 50 7 50 8 50 9 50;hour 0 0 1 0 2 0 3 0 4 0 6 50 7 50 8 50 9 50;");
        Check.due("6 of 10, 5 of 9", ten.needed(0) + " " + ten.needed(1), "0 31");
    }

    private static void neededWithoutLevel() {
        Check.edge("Promise 21", "as a set (also if it has no level)");
        BuoyString x = Check.stringOf(3);
        Check.play(x, "hour;hour 0 0 1 50;hour 0 0 1 50 2 90;hour 0 0 1 100 2 4;");
        Check.due("no voter", x.needed(0), 0);
        Check.due("two that differ: without either there is a level", x.hour(1, 2) + " " + x.needed(1), "0 0");
        Check.due("three that differ", x.hour(2, 2) + " " + x.needed(2), "0 7");
        Check.due("an hour with a level", x.hour(3, 2) + " " + x.needed(3), "1 5");
    }
}
