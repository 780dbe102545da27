/** Promises 11 to 21 and 32: what the hours that ended tell, and how an hour ends. */
public final class HoursTest {
    private static final String FIVE =
            "terms 5 2 2;buoy 0 1 9;buoy 1 1 9;buoy 2 1 9;buoy 3 1 9;buoy 4 1 9;";

    public static void main(String[] args) {
        middleAndSupporters();
        roundsDown();
        strikes();
        takenOut();
        takenOutOfKeptHoursOnly();
        retoldWithToleranceOfNow();
        agreed();
        limits();
        why();
        tideAndExtremes();
        agreement();
        levelNow();
        levelWithoutAndNeeded();
        keptHours();
        wrongHours();
        Check.end("HoursTest");
    }

    private static void middleAndSupporters() {
        BuoyString x = Check.loaded("terms 5 9 9;buoy 0 1 9;buoy 1 1 9;buoy 2 2 9;buoy 3 3 9;");
        Check.hour(x, "", "0 0 0 0 0 ?");
        Check.hour(x, "1 -50", "2 2 1 1 0 -50");
        // half of the votes is enough for the middle, but not for a level
        Check.hour(x, "0 0 1 50", "3 1 0 2 0 ?");
        Check.hour(x, "0 6 1 0", "3 2 0 2 0 ?");
        Check.hour(x, "0 5 1 0", "3 3 1 2 0 2");
        // 2 of 7 votes up to 5, 4 up to 10: the middle is 10, and the 16 of buoy 3 is too far
        Check.hour(x, "0 10 1 10 2 5 3 16", "15 7 1 4 0 7");
        Check.hour(x, "0 10 1 10 2 5 3 15", "15 15 1 4 0 10");
        // values that are equal count together
        Check.hour(x, "0 7 1 7 2 7 3 900", "15 7 1 4 0 7");
        // 2 of 4 votes support it, not more than half
        Check.hour(x, "0 0 1 5 2 11", "7 3 0 3 0 ?");
        Check.hour(x, "0 0 1 5 2 10", "7 7 1 3 0 6");
    }

    private static void roundsDown() {
        BuoyString x = Check.loaded("terms 999 9 9;buoy 0 1 9;buoy 1 1 9;buoy 2 9 9 -99;");
        Check.hour(x, "0 -1 1 -2", "3 3 1 2 0 -2");
        Check.hour(x, "0 1 1 2", "3 3 1 2 0 1");
        Check.hour(x, "0 0 1 -1", "3 3 1 2 0 -1");
        Check.hour(x, "2 9999", "4 4 1 1 0 10098");
        x.setOffset(2, 99);
        Check.hour(x, "2 -9999", "4 4 1 1 0 -10098");
        Check.due("value()", x.value(4, 2) + " " + x.value(3, 2) + " " + x.value(0, 1), "-10098 10098 -2");
        // 9 times 10 and twice 0 in 11 votes
        x.setOffset(2, 0);
        Check.hour(x, "0 0 1 0 2 10", "7 7 1 3 0 8");
        Check.hour(x, "0 0 1 0 2 -10", "7 7 1 3 0 -9");
    }

    private static void strikes() {
        BuoyString x = Check.loaded(FIVE + "stock 9;");
        x.setTerms(5, 4, 2);
        Check.play(x, "hour 0 0 1 0 2 0 3 50;");
        Check.due("a strike", x.buoy(3, 5) + " " + x.buoy(3, 7), "1 0");
        Check.play(x, "hour 0 0 1 0 2 0;");
        Check.due("an hour without it", x.buoy(3, 5) + " " + x.buoy(3, 7), "1 0");
        Check.play(x, "hour 0 0 3 50;");
        Check.due("an hour without a level", x.buoy(3, 5) + " " + x.buoy(3, 7) + " " + x.buoy(0, 5), "1 0 0");
        Check.play(x, "hour 0 0 1 0 2 0 3 50;");
        Check.due("a second strike", x.buoy(3, 5) + " " + x.buoy(3, 7), "2 0");
        Check.play(x, "hour 0 0 1 0 2 0 3 5;");
        Check.due("it agrees", x.buoy(3, 5) + " " + x.buoy(3, 7), "0 -1");
        Check.play(x, "hour 0 0 1 0 2 0 3 6;");
        Check.due("a strike again", x.buoy(3, 5) + " " + x.buoy(3, 7) + " " + x.buoy(3, 4), "1 5 0");
        Check.play(x, "hour 0 0 1 0 2 0 3 6;hour 0 0 1 0 2 0 3 6;");
        Check.due("three strikes", x.buoy(3, 5) + " " + x.buoy(3, 7) + " " + x.buoy(3, 4), "3 5 0");
        x.report(3, 6);
        x.report(0, 0);
        x.report(1, 0);
        Check.due("endHour() that drags one", x.endHour(), 1);
        Check.due("four strikes", x.buoy(3, 5) + " " + x.buoy(3, 7) + " " + x.buoy(3, 4), "4 5 2");
        Check.due("reports are gone", x.buoy(3, 8) + " " + x.buoy(0, 8) + " " + x.buoy(3, 9), "0 0 0");
        Check.due("endHour() without reports", x.endHour(), 0);
    }

    private static void takenOut() {
        BuoyString x = Check.loaded(FIVE);
        x.setTerms(5, 3, 2);
        Check.hour(x, "0 0 1 0 2 0 3 90", "15 7 1 4 0 0");
        Check.hour(x, "0 0 1 0 2 0 3 3", "15 15 1 4 0 0");
        Check.hour(x, "0 0 1 0 2 0 3 90 4 80", "31 7 1 5 0 0");
        // no level: no strike, but its votes will be taken back here, too, and then there is a level
        Check.hour(x, "0 5 3 90", "9 1 0 2 0 ?");
        Check.hour(x, "0 0 1 0 2 0 3 90", "15 7 1 4 0 0");
        Check.due("not told anew yet", x.size(14), 0);
        Check.hour(x, "0 0 1 0 2 0 3 90 4 80", "23 7 1 5 8 0");
        Check.due("told anew", x.size(14), 4);
        Check.due("an hour ahead of its SINCE", Check.told(x, 0), "15 7 1 4 0 0");
        Check.due("the hour when it agreed", Check.told(x, 1), "15 15 1 4 0 0");
        Check.due("its first hour", Check.told(x, 2), "23 7 1 5 8 0");
        Check.due("the hour that had no level", Check.told(x, 3), "1 1 1 2 8 5");
        Check.due("its second hour", Check.told(x, 4), "7 7 1 4 8 0");
        Check.due("strikes of the others stay", x.buoy(4, 5) + " " + x.buoy(4, 7) + " " + x.buoy(0, 5), "2 2 0");
        Check.hour(x, "0 0 1 0 2 0 3 90 4 80", "7 7 1 5 16 0");
        Check.due("both are out", Check.told(x, 2) + ", " + Check.told(x, 5), "7 7 1 5 24 0, 7 7 1 5 24 0");
        Check.due("told anew once more", x.size(14) + " " + x.size(5), "7 2");
        Check.due("values stay", x.value(2, 3) + " " + x.value(6, 3), "90 90");

        // two at one end: each hour is told anew once
        BuoyString y = Check.loaded(FIVE);
        Check.play(y, "hour 0 0 1 0 2 0 3 9 4 -9;");
        for (int b = 0; b < 5; b++) {
            y.report(b, b == 3 ? 9 : b == 4 ? -9 : 0);
        }
        Check.due("endHour() that drags two", y.endHour(), 2);
        Check.due("told anew", y.size(14) + " " + Check.told(y, 0), "2 7 7 1 5 24 0");

        // a level can be lost: ahead of (7) the middle is 5, behind it 7
        BuoyString z = Check.loaded("terms 5 2 2;buoy 0 3 9;buoy 1 1 9;buoy 2 3 9;buoy 3 2 9;buoy 4 1 9;");
        Check.hour(z, "0 0 1 0 2 0 3 0 4 90", "31 15 1 5 0 0");
        Check.hour(z, "0 0 1 5 2 7 3 13 4 -100", "15 6 0 5 16 ?");
        Check.due("strikes are those of the level that it had", z.buoy(0, 5) + " " + z.buoy(2, 5) + " " + z.buoy(3, 5)
                + " " + z.buoy(3, 7) + " " + z.size(13), "0 0 1 1 1");
        Check.due("why()", z.why(1, 0) + " " + z.why(1, 1) + " " + z.why(1, 4), "6 6 5");
    }

    private static void takenOutOfKeptHoursOnly() {
        BuoyString x = Check.loaded(FIVE);
        Check.play(x, "hour 0 0 1 0 2 0 3 90;" + "hour;".repeat(22));
        Check.due("its first hour is the earliest one", x.size(1) + " " + x.size(2) + " " + x.buoy(3, 7), "23 23 0");
        x.save(0);
        Check.play(x, "hour 0 0 1 0 2 0 3 90;");
        Check.due("both hours are kept", Check.told(x, 0) + ", " + x.size(14), "7 7 1 4 8 0, 2");
        x.restore(0);
        Check.play(x, "hour;hour 0 0 1 0 2 0 3 90;");
        Check.due("the first hour is no more kept", x.size(14) + " " + x.size(2) + " " + Check.told(x, 24), "1 24 7 7 1 4 8 0");
        Check.due("its SINCE", x.buoy(3, 7), 0);
        Check.play(x, "hour;".repeat(23) + "hour 0 0 1 0 2 0;");
        Check.due("later hours have nothing of it", Check.told(x, 48), "7 7 1 3 0 0");
    }

    private static void retoldWithToleranceOfNow() {
        BuoyString x = Check.loaded(FIVE);
        Check.hour(x, "0 0 1 4 2 5 3 90", "15 7 1 4 0 3");
        x.setTerms(0, 2, 2);
        Check.due("nothing else changes at once", Check.told(x, 0), "15 7 1 4 0 3");
        Check.hour(x, "0 0 1 0 2 0 3 90", "7 7 1 4 8 0");
        Check.due("the hour told anew", Check.told(x, 0), "7 2 0 4 8 ?");
        Check.due("why()", x.why(0, 1) + " " + x.why(0, 3), "6 5");
        x.setTerms(9, 1, 2);
        Check.hour(x, "0 10 1 20 2 20 4 20", "22 22 1 4 1 20");
        Check.due("an hour ahead of its SINCE", Check.told(x, 0), "7 2 0 4 8 ?");
    }

    private static void agreed() {
        BuoyString x = Check.loaded("terms 5 2 2;buoy 0 1 9;buoy 1 1 9;buoy 2 1 0;buoy 3 1 1;rope 1 5;rope 2 5;");
        Check.due("a storm", x.storm(6, 1, 3), 12);
        Check.due("suspect ones", Check.string(x), "0T-1T 2S 3S");
        Check.hour(x, "0 0 1 2 2 6 3 7", "3 3 1 4 0 1");
        Check.due("agreed", x.buoy(2, 6) + " " + x.buoy(3, 6), "1 0");
        Check.hour(x, "0 0 1 9 2 5 3 5", "3 1 0 4 0 ?");
        Check.due("an hour without a level", x.buoy(2, 6) + " " + x.buoy(3, 6), "1 0");
        Check.hour(x, "0 0 1 0 3 -5", "3 3 1 3 0 0");
        Check.due("an hour without buoy 2", x.buoy(2, 6) + " " + x.buoy(3, 6), "1 1");
        Check.hour(x, "0 0 1 0 2 6 3 6", "3 3 1 4 0 0");
        Check.due("both are off", x.buoy(2, 6) + " " + x.buoy(3, 6), "0 0");
        Check.hour(x, "0 0 1 0 2 -5 3 0", "3 3 1 4 0 0");
        Check.hour(x, "0 0 1 0 2 0 3 6", "3 3 1 4 0 0");
        Check.due("buoy 2 is trusted again", Check.string(x) + x.buoy(2, 6) + x.buoy(3, 6), "0T-1T 2T 3S00");
        Check.due("it was suspect then", x.why(6 - 1, 2), 2);
        Check.hour(x, "0 0 1 0 2 0 3 0", "7 7 1 4 0 0");
        Check.due("buoy 3 agreed once", x.buoy(3, 6), 1);
        x.setTerms(5, 2, 1);
        Check.due("CALM alone changes nothing", x.buoy(3, 4), 1);
        Check.hour(x, "0 0 1 9", "3 1 0 2 0 ?");
        Check.due("an hour without a level neither", x.buoy(3, 4), 1);
        Check.hour(x, "0 0 1 0", "3 3 1 2 0 0");
        Check.due("an hour with a level does, though it did not report", x.buoy(3, 4) + " " + x.buoy(3, 6), "0 0");
    }

    private static void limits() {
        BuoyString y = Check.loaded("terms 5 2 1;buoy 0 1 0;buoy 1 1 9;rope 0 1;");
        y.storm(2, 0, 1);
        Check.due("buoy 0 drifts", y.buoy(0, 4) + " " + y.buoy(1, 4), "1 0");
        Check.play(y, "hour 0 5 1 0;");
        Check.due("CALM is reached at once", y.buoy(0, 4) + " " + y.buoy(0, 6) + " " + y.why(0, 0), "0 0 2");
        BuoyString x = Check.loaded(FIVE);
        x.setTerms(5, 9, 2);
        Check.play(x, "hour 0 0 1 0 2 0 3 90;hour 0 0 1 0 2 0 3 90;");
        x.setTerms(5, 1, 2);
        Check.due("LIMIT alone changes nothing", x.buoy(3, 4), 0);
        Check.play(x, "hour 0 0 1 0 2 0;");
        Check.due("an hour of which it is no voter neither", x.buoy(3, 4) + " " + x.buoy(3, 5), "0 2");
        Check.play(x, "hour 0 0 3 90;");
        Check.due("an hour without a level neither", x.buoy(3, 4) + " " + x.buoy(3, 5), "0 2");
        x.setTerms(5, 3, 2);
        Check.play(x, "hour 0 0 1 0 2 0 3 90;");
        Check.due("LIMIT is reached", x.buoy(3, 4) + " " + x.buoy(3, 5) + " " + x.buoy(3, 7), "2 3 0");
        Check.due("told anew", x.size(14), 4);
    }

    private static void why() {
        BuoyString x = Check.loaded("terms 5 1 9;buoy 0 1 9;buoy 1 1 9;buoy 2 1 0;buoy 3 1 9;buoy 4 1 9;rope 1 1;rope 2 1;");
        x.storm(2, 1, 3);
        Check.due("a storm", Check.string(x), "0T-1T 2S 3T-4T");
        Check.play(x, "hour 0 0 1 0 2 0 3 50;hour 0 0 1 0 2 99 3 0;");
        Check.due("hour 0", "" + x.why(0, 0) + x.why(0, 1) + x.why(0, 2) + x.why(0, 3) + x.why(0, 4), "00251");
        Check.due("hour 1", "" + x.why(1, 0) + x.why(1, 1) + x.why(1, 2) + x.why(1, 3) + x.why(1, 4), "00231");
        x.setTerms(5, 2, 9);
        Check.play(x, "hour 0 0 1 0 4 50;hour 0 0 1 50;hour;");
        Check.due("hour 2", "" + x.why(2, 0) + x.why(2, 2) + x.why(2, 3) + x.why(2, 4), "0114");
        Check.due("hour 3", "" + x.why(3, 0) + x.why(3, 1) + x.why(3, 4), "661");
        Check.due("hour 4", "" + x.why(4, 0) + x.why(4, 3), "11");
        x.haul(3);
        Check.due("it was dragged then", x.why(1, 3), 3);
        Check.refused("why(0, 5)", Check.INDEX, () -> x.why(0, 5));
        Check.refused("why(0, -1)", Check.INDEX, () -> x.why(0, -1));
        Check.refused("why(5, 0)", Check.INDEX, () -> x.why(5, 0));
        Check.refused("value(0, 4)", Check.NO_ELEMENT, () -> x.value(0, 4));
        Check.refused("value(0, 5)", Check.INDEX, () -> x.value(0, 5));
        Check.refused("value(5, 0)", Check.INDEX, () -> x.value(5, 0));
        Check.due("values", x.value(0, 3) + " " + x.value(1, 2) + " " + x.value(1, 3), "50 99 0");
    }

    private static void tideAndExtremes() {
        BuoyString x = new BuoyString();
        Check.due("extremes of no hours", x.extreme(true) + " " + x.extreme(false) + " " + x.meanLevel(), "-1 -1 0.0");
        Check.play(x, "hour;");
        Check.due("extremes of no levels", x.extreme(true) + " " + x.extreme(false) + " " + x.meanLevel(), "-1 -1 0.0");
        Check.play(x, "hour 0 5;hour 0 7;hour;hour 0 7;hour 0 -6;hour 0 5;hour 0 -6;hour 0 7;");
        Check.refused("tide() of the first level", Check.NO_ELEMENT, () -> x.tide(1));
        Check.due("tides", "" + x.tide(2) + x.tide(4) + x.tide(5) + x.tide(6) + x.tide(7), "10-11-1");
        Check.refused("tide() without a level", Check.NO_ELEMENT, () -> x.tide(3));
        Check.refused("tide() of an hour that is not kept", Check.INDEX, () -> x.tide(9));
        Check.due("extremes", x.extreme(true) + " " + x.extreme(false), "5 2");
        Check.due("the mean", x.meanLevel(), (5 + 7 + 7 - 6 + 5 - 6 + 7) / 7.0);
        Check.play(x, "hour;".repeat(17));
        Check.due("the kept hours begin with 2", x.size(1) - x.size(2), 2);
        Check.refused("tide() with no level ahead that is kept", Check.NO_ELEMENT, () -> x.tide(2));
        Check.due("hour 1 is no more kept", x.meanLevel(), (7 + 7 - 6 + 5 - 6 + 7) / 6.0);
        Check.play(x, "hour;hour;hour;hour;");
        Check.due("the extremes of what is kept", x.extreme(true) + " " + x.extreme(false), "7 8");
        BuoyString y = new BuoyString();
        Check.play(y, "hour 0 1;hour 0 0;hour 0 0;");
        Check.due("a mean", y.meanLevel(), 1 / 3.0);
    }

    private static void agreement() {
        BuoyString x = Check.loaded("terms 5 9 9;buoy 0 1 9;buoy 1 2 9;buoy 2 4 9;");
        Check.play(x, "hour;hour 0 0 1 0;hour 0 0 1 9 2 9;hour 0 9 1 0 2 0;hour 0 0 1 9 2 20;");
        Check.due("agreements", x.agreement(0) + " " + x.agreement(1) + " " + x.agreement(2) + " " + x.agreement(3),
                "0.0 1.0 " + 6.0f / 7.0f + " " + 6.0f / 7.0f);
        Check.due("agreement() without votes beside it", x.agreement(4), 4.0f / 7.0f);
        BuoyString y = Check.loaded("terms 5 9 9;buoy 0 1 9;buoy 1 1 9;buoy 2 1 9;");
        Check.play(y, "hour 0 0 1 9 2 20;");
        Check.due("agreement() of an hour without a level", y.agreement(0), 1.0f / 3.0f);
        Check.due("needed() of three that differ", y.needed(0), 7);
        Check.refused("agreement(1)", Check.INDEX, () -> y.agreement(1));
        Check.refused("agreement(-1)", Check.INDEX, () -> y.agreement(-1));
    }

    private static void levelNow() {
        BuoyString x = Check.loaded(FIVE);
        Check.refused("levelNow() without reports", Check.NO_ELEMENT, () -> x.levelNow());
        x.report(0, 10);
        Check.due("levelNow()", x.levelNow(), 10);
        x.report(1, 16);
        Check.refused("levelNow() of two that differ", Check.NO_ELEMENT, () -> x.levelNow());
        x.setOffset(1, 1);
        Check.due("levelNow() with an OFFSET", x.levelNow(), 12);
        x.setTerms(4, 2, 2);
        Check.refused("levelNow() with less TOLERANCE", Check.NO_ELEMENT, () -> x.levelNow());
        x.setTerms(5, 2, 2);
        x.report(1, 15);
        Check.due("levelNow() behind a later report", x.levelNow(), 12);
        x.setHold(0, 0);
        x.storm(11, 0, 1);
        x.storm(99, 0, 0);
        Check.due("a storm", Check.string(x), "0S 1T-2T-3T-4T");
        Check.due("levelNow() without a suspect buoy", x.levelNow(), 14);
        String before = Check.everything(x);
        x.levelNow();
        Check.due("nothing changes", Check.everything(x), before);
        x.endHour();
        Check.due("the level", x.level(0), 14);
    }

    private static void levelWithoutAndNeeded() {
        BuoyString x = Check.loaded("terms 5 9 9;buoy 0 2 9;buoy 1 1 9;buoy 2 1 9;buoy 3 3 0;rope 2 1;");
        x.storm(2, 2, 3);
        Check.play(x, "hour 0 0 1 4 2 8 3 8;hour 0 0 1 100 2 200;hour 1 5;hour;");
        String before = Check.everything(x);
        Check.due("hour 0", Check.told(x, 0), "7 3 1 4 0 1");
        Check.due("levelWithout()", x.levelWithout(0, 0) + " " + x.levelWithout(0, 1) + " " + x.levelWithout(0, 4) + " "
                + x.levelWithout(0, 5) + " " + x.levelWithout(0, 3), "1 6 1 4 8");
        Check.due("members that do not matter", x.levelWithout(0, 8 + 1024 + 65536 + 1) + " "
                + x.levelWithout(0, Integer.MIN_VALUE + 4), "6 1");
        Check.refused("levelWithout(0, 7)", Check.NO_ELEMENT, () -> x.levelWithout(0, 7));
        Check.refused("levelWithout(0, -1)", Check.NO_ELEMENT, () -> x.levelWithout(0, -1));
        Check.due("levelWithout(0, -2)", x.levelWithout(0, -2), 0);
        Check.refused("levelWithout(3, 0)", Check.NO_ELEMENT, () -> x.levelWithout(3, 0));
        Check.refused("levelWithout(4, 0)", Check.INDEX, () -> x.levelWithout(4, 0));
        Check.refused("levelWithout(-1, 0)", Check.INDEX, () -> x.levelWithout(-1, 0));
        Check.due("needed(0)", x.needed(0), 0);
        Check.due("needed(1) of an hour without a level", x.needed(1), 1);
        Check.due("needed(2)", x.needed(2), 2);
        Check.due("needed(3)", x.needed(3), 0);
        Check.refused("needed(4)", Check.INDEX, () -> x.needed(4));
        Check.due("nothing changes", Check.everything(x), before);
        x.setTerms(3, 9, 9);
        Check.due("hour 0 stays", Check.told(x, 0), "7 3 1 4 0 1");
        Check.refused("levelWithout() with TOLERANCE as it is now", Check.NO_ELEMENT, () -> x.levelWithout(0, 0));
        Check.due("levelWithout(0, 1)", Check.answer(() -> x.levelWithout(0, 1)),
                "throws java.util.NoSuchElementException");
        Check.due("needed(0) with TOLERANCE as it is now", x.needed(0), 1);
    }

    private static void keptHours() {
        BuoyString x = new BuoyString();
        for (int h = 0; h < 60; h++) {
            x.report(h % 2, h);
            x.endHour();
            int first = Math.max(0, h - 23);
            Check.due("kept hours", x.size(2), h - first + 1);
            Check.due("extremes of the kept hours", x.extreme(true) + " " + x.extreme(false), first + " " + h);
            if (h > first) {
                Check.due("tide() behind the earliest one", x.tide(first + 1), 1);
            }
            Check.due("the earliest and the latest", x.level(first) + " " + x.level(h), first + " " + h);
            Check.refused("an hour that is no more kept", Check.INDEX, () -> x.level(first - 1));
            int next = h + 1;
            Check.refused("the hour that runs", Check.INDEX, () -> x.level(next));
        }
    }

    private static void wrongHours() {
        BuoyString x = new BuoyString();
        Check.play(x, "hour 0 1;hour;");
        for (int h : new int[] {-1, 2, -24, 24, Integer.MAX_VALUE, Integer.MIN_VALUE}) {
            Check.refused("hour(" + h + ", 0)", Check.INDEX, () -> x.hour(h, 0));
            Check.refused("hour(" + h + ", 5)", Check.INDEX, () -> x.hour(h, 5));
            Check.refused("level(" + h + ")", Check.INDEX, () -> x.level(h));
            Check.refused("value(" + h + ", 0)", Check.INDEX, () -> x.value(h, 0));
            Check.refused("why(" + h + ", 0)", Check.INDEX, () -> x.why(h, 0));
            Check.refused("tide(" + h + ")", Check.INDEX, () -> x.tide(h));
            Check.refused("agreement(" + h + ")", Check.INDEX, () -> x.agreement(h));
            Check.refused("levelWithout(" + h + ", 0)", Check.INDEX, () -> x.levelWithout(h, 0));
            Check.refused("needed(" + h + ")", Check.INDEX, () -> x.needed(h));
        }
        Check.refused("hour(0, 5)", Check.ARGUMENT, () -> x.hour(0, 5));
        Check.refused("hour(0, -1)", Check.ARGUMENT, () -> x.hour(0, -1));
        Check.refused("level(1)", Check.NO_ELEMENT, () -> x.level(1));
    }
}
