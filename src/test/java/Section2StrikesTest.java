/** Section 2 of the document, (4), (5) and (7): a test for each sentence with a boundary. */
public final class Section2StrikesTest {
    public static void main(String[] args) {
        nothingWithoutLevel();
        supportersLoseStrikes();
        othersGetStrikes();
        sinceOfFirstStrike();
        agreedByLevel();
        agreedOtherwiseZero();
        agreedOfSuspectOnly();
        calmReached();
        calmMadeLess();
        trustedAgainVotesLater();
        limitReached();
        limitMadeLess();
        strikesAndSinceStay();
        notDraggedWithoutLevel();
        firstAndLastBuoy();
        takenOutFromSinceOn();
        takenOutWhereItVoted();
        takenOutOfKeptHoursOnly();
        toldAnewOnceForAll();
        toldAnewWithValuesOfThatHour();
        toldAnewWithToleranceOfNow();
        levelComesAndGoes();
        noVoterLeft();
        nothingElseChanges();
        noLevelUsesIt();
        Check.end("Section2StrikesTest");
    }

    /** Buoys of which the first two are trusted, and the others suspect. */
    private static BuoyString suspects(int buoys, int calm) {
        BuoyString x = Check.stringOf(buoys);
        x.setTerms(5, 9, calm);
        x.setHold(0, 99);
        x.setHold(1, 99);
        Check.due("the others drift", x.storm(11, 0, buoys - 1), (1 << buoys) - 4);
        return x;
    }

    private static String strikes(BuoyString x, int buoy) {
        return Check.buoy(x, buoy, 4, 5, 7);
    }

    private static void nothingWithoutLevel() {
        Check.edge("Section 2 (4)", "If it has a level");
        BuoyString x = Check.stringOf(3);
        x.setTerms(5, 9, 9);
        Check.hour(x, "0 0 1 0 2 50", "7 3 1 3 0 0");
        Check.hour(x, "0 0 2 50", "5 1 0 2 0 ?");
        Check.due("no strike without a level", strikes(x, 2) + ", " + strikes(x, 0), "0 1 0, 0 0 -1");
        Check.hour(x, "0 50 2 0", "5 4 0 2 0 ?");
        Check.due("its supporter keeps its strikes", strikes(x, 2) + ", " + strikes(x, 0), "0 1 0, 0 0 -1");
        Check.hour(x, "", "0 0 0 0 0 ?");
        Check.due("an hour without reports", strikes(x, 2), "0 1 0");
        BuoyString y = suspects(3, 9);
        Check.hour(y, "0 0 1 0 2 0", "3 3 1 3 0 0");
        Check.hour(y, "0 0 1 50 2 0", "3 1 0 3 0 ?");
        Check.hour(y, "0 0 1 50 2 90", "3 1 0 3 0 ?");
        Check.due("AGREED without a level", y.buoy(2, 6), 1);
    }

    private static void supportersLoseStrikes() {
        Check.edge("Section 2 (4)", "the STRIKES of each supporter become 0, and its SINCE becomes NONE");
        BuoyString x = Check.stringOf(5);
        x.setTerms(5, 9, 9);
        Check.hour(x, "0 0 1 0 2 0 3 50 4 6", "31 7 1 5 0 0");
        Check.hour(x, "0 0 1 0 2 0 3 50 4 6", "31 7 1 5 0 0");
        Check.due("strikes", strikes(x, 3) + ", " + strikes(x, 4), "0 2 0, 0 2 0");
        Check.hour(x, "0 0 1 0 2 0 3 5 4 -5", "31 31 1 5 0 0");
        Check.due("as far from the middle as can be", strikes(x, 3) + ", " + strikes(x, 4), "0 0 -1, 0 0 -1");
        Check.due("without strikes", strikes(x, 0), "0 0 -1");
    }

    private static void othersGetStrikes() {
        Check.edge("Section 2 (4)", "the STRIKES of each other voter become one more");
        BuoyString x = suspects(6, 9);
        x.setTerms(5, 9, 1);
        Check.play(x, "hour 0 0 1 0 2 0 3 0 4 0;");
        Check.due("the states", Check.string(x), "0T 1T 2T 3T 4T 5S");
        Check.hour(x, "0 0 1 0 2 0 3 6 4 -6 5 90", "31 7 1 6 0 0");
        Check.due("one farther than TOLERANCE", strikes(x, 3) + ", " + strikes(x, 4), "0 1 1, 0 1 1");
        Check.due("a suspect one", strikes(x, 5), "1 0 -1");
        Check.hour(x, "0 0 1 0 2 0 4 90", "23 7 1 4 0 0");
        Check.due("one that did not report", strikes(x, 3) + ", " + strikes(x, 4), "0 1 1, 0 2 1");
    }

    private static void sinceOfFirstStrike() {
        Check.edge("Section 2 (4)", "and if they were 0, its SINCE becomes the number of this hour");
        BuoyString x = Check.stringOf(3);
        x.setTerms(5, 9, 9);
        Check.play(x, "hour 0 0 1 0 2 50;");
        Check.due("hour 0", strikes(x, 2), "0 1 0");
        Check.play(x, "hour;hour 0 0 1 0 2 50;");
        Check.due("the second strike", strikes(x, 2), "0 2 0");
        Check.play(x, "hour 0 0 1 0 2 0;hour;hour 0 0 1 0 2 50;hour 0 0 1 0 2 50;");
        Check.due("the first strike again, and one more", strikes(x, 2), "0 2 5");
    }

    private static void agreedByLevel() {
        Check.edge("Section 2 (4)", "The AGREED of each suspect buoy that reported becomes one more if its value "
                + "differs from the level by at most TOLERANCE");
        BuoyString x = suspects(8, 9);
        // the middle is 0, the level 2
        Check.hour(x, "0 0 1 4 2 7 3 8 4 -3 5 -4 6 2", "3 3 1 7 0 2");
        Check.due("5 from the level", x.buoy(2, 6) + " " + x.buoy(4, 6), "1 1");
        Check.due("6 from the level", x.buoy(3, 6) + " " + x.buoy(5, 6), "0 0");
        Check.due("at the level, and without a report", x.buoy(6, 6) + " " + x.buoy(7, 6), "1 0");
        x.setOffset(6, 3);
        x.setTerms(0, 9, 9);
        Check.hour(x, "0 4 1 4 2 4 6 7", "3 3 1 4 0 4");
        Check.due("with a TOLERANCE of 0", x.buoy(2, 6) + " " + x.buoy(6, 6) + " " + x.buoy(4, 6), "2 2 1");
        Check.hour(x, "0 4 1 4 2 5 6 7", "3 3 1 4 0 4");
        Check.due("1 from the level", x.buoy(2, 6) + " " + x.buoy(6, 6), "0 3");
    }

    private static void agreedOtherwiseZero() {
        Check.edge("Section 2 (4)", "otherwise 0");
        BuoyString x = suspects(4, 9);
        Check.play(x, "hour 0 0 1 0 2 0 3 0;".repeat(3));
        Check.due("agreed", x.buoy(2, 6) + " " + x.buoy(3, 6), "3 3");
        Check.play(x, "hour 0 0 1 0 2 6;");
        Check.due("one is off, one did not report", x.buoy(2, 6) + " " + x.buoy(3, 6), "0 3");
        Check.play(x, "hour 0 0 1 0 2 -6 3 9999;");
        Check.due("both are off", x.buoy(2, 6) + " " + x.buoy(3, 6), "0 0");
    }

    private static void agreedOfSuspectOnly() {
        Check.edge("Section 2 (4)", "The AGREED of each suspect buoy");
        BuoyString x = Check.stringOf(3);
        x.setTerms(5, 1, 1);
        Check.play(x, "hour 0 0 1 0 2 50;hour 0 0 1 0 2 0;");
        Check.due("trusted ones", Check.buoy(x, 0, 4, 6) + ", " + Check.buoy(x, 1, 4, 6), "0 0, 0 0");
        Check.due("a dragged one", Check.buoy(x, 2, 4, 5, 6, 7), "2 1 0 0");
    }

    private static void calmReached() {
        Check.edge("Section 2 (5)", "each suspect buoy whose AGREED is at least CALM then becomes trusted, "
                + "and its AGREED 0");
        for (int calm = 1; calm <= 9; calm++) {
            BuoyString x = suspects(3, calm);
            Check.play(x, "hour 0 0 1 0 2 0;".repeat(calm - 1));
            Check.due("one less than CALM " + calm, Check.buoy(x, 2, 4, 6), "1 " + (calm - 1));
            Check.play(x, "hour 0 0 1 0 2 0;");
            Check.due("CALM " + calm, Check.buoy(x, 2, 4, 6), "0 0");
        }
    }

    private static void calmMadeLess() {
        Check.edge("Section 2 (5)", "AGREED is at least CALM");
        BuoyString x = suspects(4, 9);
        Check.play(x, "hour 0 0 1 0 2 0 3 0;".repeat(4));
        x.setTerms(5, 9, 2);
        Check.due("nothing changes at once", Check.buoy(x, 2, 4, 6), "1 4");
        Check.play(x, "hour 0 0 1 50 2 0;");
        Check.due("an hour without a level", Check.buoy(x, 2, 4, 6), "1 4");
        Check.play(x, "hour 0 0 1 0 2 90;");
        Check.due("one that is off", Check.buoy(x, 2, 4, 6), "1 0");
        Check.due("one that did not report", Check.buoy(x, 3, 4, 6), "0 0");
    }

    private static void trustedAgainVotesLater() {
        Check.edge("Section 2 (5)", "then becomes trusted");
        BuoyString x = suspects(3, 1);
        Check.hour(x, "0 0 1 0 2 5", "3 3 1 3 0 0");
        Check.due("it was suspect ahead of (5)", x.buoy(2, 4) + " " + x.why(0, 2), "0 2");
        Check.hour(x, "0 0 1 0 2 5", "7 7 1 3 0 1");
    }

    private static void limitReached() {
        Check.edge("Section 2 (5)", "Each voter whose STRIKES are at least LIMIT then becomes dragged");
        for (int limit = 1; limit <= 9; limit++) {
            BuoyString x = Check.stringOf(4);
            x.setTerms(5, limit, 2);
            Check.play(x, "hour 0 0 1 0 2 0 3 6;".repeat(limit - 1));
            Check.due("one less than LIMIT " + limit, Check.buoy(x, 3, 4, 5), "0 " + (limit - 1));
            x.report(0, 0);
            x.report(1, 0);
            x.report(3, 6);
            Check.due("endHour()", x.endHour(), 1);
            Check.due("LIMIT " + limit, strikes(x, 3), "2 " + limit + " 0");
            Check.due("the others", x.size(3) + " " + x.size(5), "3 1");
        }
    }

    private static void limitMadeLess() {
        Check.edge("Section 2 (5)", "Each voter whose STRIKES are at least LIMIT");
        BuoyString x = Check.stringOf(5);
        x.setTerms(5, 9, 2);
        Check.play(x, "hour 0 0 1 0 2 0 3 50 4 50;".repeat(3));
        x.setTerms(5, 2, 2);
        Check.due("nothing changes at once", strikes(x, 3), "0 3 0");
        Check.play(x, "hour 0 0 1 0 2 0;");
        Check.due("they are no voters", strikes(x, 3) + ", " + strikes(x, 4), "0 3 0, 0 3 0");
        Check.play(x, "hour 0 0 1 0 2 0 3 0 4 50;");
        Check.due("a supporter, and one that is not", strikes(x, 3) + ", " + strikes(x, 4), "0 0 -1, 2 4 0");
    }

    private static void strikesAndSinceStay() {
        Check.edge("Section 2 (5)", "its STRIKES and its SINCE stay");
        BuoyString x = Check.stringOf(3);
        Check.play(x, "hour;hour 0 0 1 0 2 50;hour;hour 0 0 1 0 2 50;");
        Check.due("behind the hour", strikes(x, 2), "2 2 1");
        Check.play(x, "hour 0 0 1 0 2 0;hour 0 0 1 0 2 50;");
        Check.due("behind later hours", strikes(x, 2), "2 2 1");
        x.storm(99, 0, 2);
        Check.due("behind a storm", strikes(x, 2), "2 2 1");
    }

    private static void notDraggedWithoutLevel() {
        Check.edge("Section 2 (5)", "If it has a level");
        BuoyString x = Check.stringOf(4);
        x.setTerms(5, 3, 2);
        Check.play(x, "hour 0 0 1 0 2 50;".repeat(2));
        x.setTerms(5, 2, 2);
        Check.hour(x, "0 0 2 50", "5 1 0 2 0 ?");
        Check.due("a voter with enough STRIKES", strikes(x, 2) + " " + x.size(14), "0 2 0 0");
        Check.hour(x, "0 0 1 0 2 50", "3 3 1 3 4 0");
        Check.due("an hour with a level", strikes(x, 2), "2 3 0");
    }

    private static void firstAndLastBuoy() {
        Check.edge("Section 2 (5)", "each suspect buoy ... Each voter (the first one and the last one of ten)");
        BuoyString x = Check.stringOf(10);
        Check.play(x, "hour 0 50 1 0 2 0 3 0 4 0 5 0 6 0 7 0 8 0 9 90;".repeat(2));
        Check.due("both are dragged", Check.string(x), "0D-1T-2T-3T-4T-5T-6T-7T-8T-9D");
        Check.due("both are taken out of both hours", Check.told(x, 0) + ", " + Check.told(x, 1),
                "510 510 1 10 513 0, 510 510 1 10 513 0");
        x.haul(0);
        x.haul(9);
        Check.play(x, "hour 0 0 1 0 2 0 9 5;");
        Check.due("both agree", Check.buoy(x, 0, 4, 6) + ", " + Check.buoy(x, 9, 4, 6), "1 1, 1 1");
        Check.play(x, "hour 0 0 1 0 2 0 9 5;");
        Check.due("both are trusted", Check.string(x), "0T-1T-2T-3T-4T-5T-6T-7T-8T-9T");
        Check.due("the storm makes both suspect", x.storm(99, 0, 0) + " " + x.buoy(0, 4) + x.buoy(9, 4), "1023 11");
    }

    private static void takenOutFromSinceOn() {
        Check.edge("Section 2 (7)", "is taken out of the voters of all kept hours from its SINCE on (this hour, "
                + "too)");
        BuoyString x = Check.stringOf(4);
        Check.hour(x, "0 0 1 0 2 0 3 50", "15 7 1 4 0 0");
        Check.hour(x, "0 0 1 0 2 0 3 4", "15 15 1 4 0 1");
        Check.hour(x, "0 0 1 0 2 0 3 50", "15 7 1 4 0 0");
        Check.hour(x, "0 0 1 0 2 0 3 50", "7 7 1 4 8 0");
        Check.due("its SINCE", x.buoy(3, 7), 2);
        Check.due("the hours ahead of it", Check.told(x, 0) + ", " + Check.told(x, 1), "15 7 1 4 0 0, 15 15 1 4 0 1");
        Check.due("its first hour", Check.told(x, 2), "7 7 1 4 8 0");
        Check.due("told anew", x.size(14), 2);
        BuoyString y = Check.stringOf(3);
        y.setTerms(5, 1, 2);
        Check.hour(y, "0 0 1 0 2 50", "3 3 1 3 4 0");
        Check.due("this hour alone", y.size(14), 1);
    }

    private static void takenOutWhereItVoted() {
        Check.edge("Section 2 (7)", "in which it was a voter");
        BuoyString x = Check.stringOf(4);
        Check.play(x, "hour 0 0 1 0 2 0 3 50;hour 0 0 1 5;hour;");
        Check.hour(x, "0 0 1 0 2 0 3 50", "7 7 1 4 8 0");
        Check.due("hours without a report of it", Check.told(x, 1) + ", " + Check.told(x, 2),
                "3 3 1 2 0 2, 0 0 0 0 0 ?");
        Check.due("they are not told anew", x.size(14), 2);
        Check.due("why()", "" + x.why(0, 3) + x.why(1, 3) + x.why(2, 3) + x.why(3, 3), "5115");
    }

    private static void takenOutOfKeptHoursOnly() {
        Check.edge("Section 2 (7)", "of all kept hours");
        BuoyString x = Check.stringOf(4);
        Check.play(x, "hour 0 0 1 0 2 0 3 50;" + "hour;".repeat(22) + "hour 0 0 1 0 2 0 3 50;");
        Check.due("its SINCE is the earliest kept hour", Check.told(x, 0) + ", " + x.size(14), "7 7 1 4 8 0, 2");
        BuoyString y = Check.stringOf(4);
        Check.play(y, "hour 0 0 1 0 2 0 3 50;" + "hour;".repeat(23) + "hour 0 0 1 0 2 0 3 50;");
        Check.due("its SINCE is no more kept", Check.told(y, 24) + ", " + y.size(14), "7 7 1 4 8 0, 1");
        Check.due("it stays", y.buoy(3, 7), 0);
        BuoyString z = Check.stringOf(4);
        Check.play(z, "hour 0 0 1 0 2 0 3 50;" + "hour 0 0 3 50;".repeat(30) + "hour 0 0 1 0 2 0 3 50;");
        Check.due("all 24 are told anew", z.size(14) + ", " + Check.told(z, 8) + ", " + Check.told(z, 31),
                "24, 1 1 1 2 8 0, 7 7 1 4 8 0");
    }

    private static void toldAnewOnceForAll() {
        Check.edge("Section 2 (7)",
                "When this is done for all such buoys, each kept hour from which one was taken out "
                + "is told anew");
        BuoyString x = Check.stringOf(5);
        Check.play(x, "hour 0 0 1 0 2 0 4 50;hour 0 0 1 0 2 0 3 90;");
        Check.hour(x, "0 0 1 0 2 0 3 90 4 50", "7 7 1 5 24 0");
        Check.due("both are dragged", Check.string(x) + " " + x.buoy(3, 7) + " " + x.buoy(4, 7),
                "0T-1T-2T-3D-4D 1 0");
        Check.due("one of two, each from its own SINCE on", Check.told(x, 0) + ", " + Check.told(x, 1),
                "7 7 1 4 16 0, 7 7 1 4 8 0");
        Check.due("each hour once", x.size(14), 3);
    }

    private static void toldAnewWithValuesOfThatHour() {
        Check.edge("Section 2 (7)", "with the voters that are left, their values of that hour");
        BuoyString x = Check.stringOf(4);
        Check.hour(x, "0 0 1 6 2 5 3 90", "15 7 1 4 0 3");
        x.setOffset(0, 50);
        x.setOffset(1, -50);
        Check.hour(x, "0 50 1 -50 2 0 3 90", "7 7 1 4 8 0");
        Check.due("OFFSETs of now do not matter", Check.told(x, 0) + " " + x.value(0, 0), "7 7 1 4 8 3 0");
    }

    private static void toldAnewWithToleranceOfNow() {
        Check.edge("Section 2 (7)", "and TOLERANCE as it is now");
        BuoyString x = Check.stringOf(4);
        Check.hour(x, "0 0 1 5", "3 3 1 2 0 2");
        Check.hour(x, "0 0 1 5 2 5 3 90", "15 7 1 4 0 3");
        x.setTerms(4, 2, 2);
        Check.hour(x, "0 0 1 0 2 0 3 90", "7 7 1 4 8 0");
        Check.due("with a lesser one", Check.told(x, 1), "7 6 1 4 8 5");
        Check.due("ahead of its SINCE", Check.told(x, 0), "3 3 1 2 0 2");
        BuoyString y = Check.stringOf(4);
        Check.hour(y, "0 0 1 0 2 7 3 90", "15 3 0 4 0 ?");
        Check.hour(y, "0 0 1 0 2 0 3 90", "15 7 1 4 0 0");
        Check.hour(y, "0 0 1 6 2 12 3 90", "15 2 0 4 0 ?");
        y.setTerms(6, 2, 2);
        Check.hour(y, "0 0 1 0 2 0 3 90", "7 7 1 4 8 0");
        Check.due("with a greater one", Check.told(y, 2) + ", " + Check.told(y, 0), "7 7 1 4 8 6, 15 3 0 4 0 ?");
    }

    private static void levelComesAndGoes() {
        Check.edge("Section 2 (7)", "is told anew: (2) and (3) are done for it with the voters that are left");
        BuoyString x = Check.stringOf(4);
        Check.play(x, "hour 0 0 1 0 2 0 3 50;");
        Check.hour(x, "0 7 3 50", "9 1 0 2 0 ?");
        Check.hour(x, "0 0 1 0 2 0 3 50", "7 7 1 4 8 0");
        Check.due("a level comes", Check.told(x, 1) + " " + x.size(13), "1 1 1 2 8 7 3");
        // ahead of (7) the middle is 5, behind it 7
        BuoyString y = Check.loaded("terms 5 2 2;buoy 0 3 9;buoy 1 1 9;buoy 2 3 9;buoy 3 2 9;buoy 4 1 9;");
        Check.hour(y, "0 0 1 0 2 0 3 0 4 90", "31 15 1 5 0 0");
        Check.hour(y, "0 0 1 5 2 7 3 13 4 -100", "15 6 0 5 16 ?");
        Check.due("a level goes", y.size(13) + " " + y.buoy(4, 4), "1 2");
        Check.refused("level(1)", Check.NO_ELEMENT, () -> y.level(1));
        Check.due("why()", "" + y.why(1, 0) + y.why(1, 1) + y.why(1, 4), "665");
    }

    private static void noVoterLeft() {
        Check.edge("Section 2 (7)", "with the voters that are left");
        BuoyString x = Check.stringOf(5);
        Check.play(x, "hour 0 0 1 0 2 0 3 50 4 90;");
        Check.hour(x, "3 50 4 90", "24 8 0 2 0 ?");
        Check.hour(x, "0 0 1 0 2 0 3 50 4 90", "7 7 1 5 24 0");
        Check.due("none is left", Check.told(x, 1), "0 0 0 2 24 ?");
        Check.due("its agreement() and needed()", x.agreement(1) + " " + x.needed(1), "0.0 0");
        Check.refused("level(1)", Check.NO_ELEMENT, () -> x.level(1));
        Check.due("told anew", x.size(14) + " " + x.size(13), "3 2");
    }

    private static void nothingElseChanges() {
        Check.edge("Section 2 (7)", "Nothing else changes by this.");
        BuoyString x = Check.loaded("terms 5 2 9;buoy 0 1 99;buoy 1 1 9;buoy 2 1 9;buoy 3 1 9;buoy 4 1 9;buoy 5 1 0;"
                + "buoy 6 1 0;rope 4 1;rope 5 1;");
        x.storm(2, 4, 6);
        Check.hour(x, "0 0 1 0 2 0 3 0 4 90", "31 15 1 5 0 0");
        // the middle is 6, and so the level; told anew without buoy 4 the middle is 5, and buoy 0 a supporter
        Check.hour(x, "0 0 1 5 2 6 3 7 4 90 5 11 6 0", "15 15 1 7 16 4");
        Check.due("the strike of this hour stays", strikes(x, 0), "0 1 1");
        Check.due("AGREED is by the level ahead of (7)", x.buoy(5, 6) + " " + x.buoy(6, 6), "1 0");
        strikesOfTheOthersStay();
    }

    private static void strikesOfTheOthersStay() {
        BuoyString z = Check.stringOf(5);
        z.setTerms(5, 2, 9);
        Check.hour(z, "0 0 1 0 2 0 4 90", "23 7 1 4 0 0");
        z.setTerms(5, 3, 9);
        // the middle is 6; told anew without buoy 4 it is 5, which buoy 0 supports
        Check.hour(z, "0 0 1 5 2 6 3 7 4 90", "31 14 1 5 0 6");
        Check.due("a strike of buoy 0", strikes(z, 0) + ", " + strikes(z, 4), "0 1 1, 0 2 0");
        Check.hour(z, "1 0 2 0 3 0 4 90", "14 14 1 4 16 0");
        Check.due("buoy 0 supports it now", Check.told(z, 1), "15 15 1 5 16 4");
        Check.due("its strike stays", strikes(z, 0), "0 1 1");
    }

    private static void noLevelUsesIt() {
        Check.edge("Section 2", "So no level uses a buoy from the hour on since which it is dragged.");
        BuoyString x = Check.stringOf(4);
        x.setTerms(5, 3, 2);
        Check.play(x, "hour 0 0 1 0 2 0 3 50;hour 3 50;hour 0 0 1 0 2 0 3 50;");
        Check.due("alone it was a supporter", x.why(1, 3) + " " + x.level(1) + " " + strikes(x, 3), "0 50 0 1 2");
        Check.play(x, "hour 0 50 3 50;hour 0 0 1 0 2 0 3 50;hour 0 0 3 50;hour 0 0 1 0 2 0 3 50;");
        Check.hour(x, "0 0 1 0 2 0 3 50", "7 7 1 4 8 0");
        Check.due("its SINCE", x.buoy(3, 4) + " " + x.buoy(3, 7), "2 4");
        Check.due("why()", "" + x.why(0, 3) + x.why(1, 3) + x.why(2, 3) + x.why(3, 3) + x.why(4, 3) + x.why(5, 3)
                + x.why(6, 3) + x.why(7, 3), "40405555");
        Check.hour(x, "0 5 1 5 2 5 3 0", "7 7 1 4 0 5");
        Check.due("a later hour", x.why(8, 3), 3);
    }
}
