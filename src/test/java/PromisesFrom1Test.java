/** Promises 1 to 10, texts and what there is: a test for each sentence with a boundary. */
public final class PromisesFrom1Test {
    private static final int LEAST = Integer.MIN_VALUE;
    private static final int MOST = Integer.MAX_VALUE;
    private static final int SPACES = 0x20202020;

    public static void main(String[] args) {
        asByTheSetup();
        emptyAtFirst();
        upTo20Bytes();
        mostSignificantFirst();
        zerosLeftOut();
        lengthOfText();
        longerThan500();
        loadReplacesAll();
        loadLeavesTheRest();
        textIsEmptyBehindLoad();
        loadWithError();
        playStopsAtRefusal();
        textIsEmptyBehindPlay();
        commandsThatWereDone();
        playWithError();
        latestErrorCode();
        latestErrorPosition();
        sizeInRange();
        sizesAtFirst();
        greatestSizes();
        levelsOfKeptHours();
        stormsSinceSetup();
        toldAnewOncePerEnd();
        ropeThatCameAndWasUsed();
        buoyInRange();
        reportOfBuoy();
        ropeInRange();
        accountInRange();
        undoneActsCount();
        refusalsCount();
        Check.end("PromisesFrom1Test");
    }

    private static void asByTheSetup() {
        Check.edge("Promise 1", "Creates a string as by the setup \"terms 20 3 2;buoy 0 1 9;buoy 100 1 9;\"");
        BuoyString x = new BuoyString();
        Check.due("everything", Check.everything(x),
                Check.everything(Check.loaded("terms 20 3 2;buoy 0 1 9;buoy 100 1 9;")));
        Check.due("the terms", x.size(8) + " " + x.size(9) + " " + x.size(10), "20 3 2");
        Check.due("buoy 0", Check.buoy(x, 0, 0, 1, 2, 3, 4, 5, 6, 7, 8, 9), "0 1 9 0 0 0 0 -1 0 0");
        Check.due("buoy 1", Check.buoy(x, 1, 0, 1, 2, 3, 4, 5, 6, 7, 8, 9), "100 1 9 0 0 0 0 -1 0 0");
        Check.due("rope 0", x.rope(0, 0) + " " + x.rope(0, 1) + " " + x.rope(0, 2) + " " + x.rope(0, 3),
                "100 10 0 0");
        Check.refused("a third buoy", Check.INDEX, () -> x.buoy(2, 0));
        Check.refused("a second rope", Check.INDEX, () -> x.rope(1, 0));
    }

    private static void emptyAtFirst() {
        Check.edge("Promise 1", "with an empty text buffer, an empty output and no saved states");
        BuoyString x = new BuoyString();
        Check.due("the length of the text", x.append(0, 0, 0, 0, 0), 0);
        Check.refused("output(0)", Check.INDEX, () -> x.output(0));
        Check.refused("restore(0)", Check.STATE, () -> x.restore(0));
        Check.refused("restore(1)", Check.STATE, () -> x.restore(1));
        Check.refused("undo()", Check.STATE, () -> x.undo());
    }

    private static void upTo20Bytes() {
        Check.edge("Promise 2", "Appends up to 20 bytes to the text buffer");
        BuoyString x = new BuoyString();
        Check.due("20 bytes", x.append(0x73746f63, 0x6b203132, 0x33343b20, 0x706c616e, 0x20393b20), 20);
        Check.due("play() of stock 1234; plan 9; ", x.play() + " " + x.size(7), "2 1234");
        Check.due("one byte", x.append(0, 0, 0, 0, 0x3b), 1);
        Check.due("20 bytes of 255", x.append(-1, -1, -1, -1, -1), 21);
    }

    private static void mostSignificantFirst() {
        Check.edge("Promise 2", "the four bytes of each parameter, the most significant byte first");
        BuoyString x = new BuoyString();
        x.append(0x686f7572, 0x20302035, 0x20312036, 0x3b686f75, 0x72203020);
        x.append(0x373b2020, 0, 0, 0, 0);
        Check.due("play() of hour 0 5 1 6;hour 0 7;", x.play() + " " + Check.hours(x), "2 0=5 1=7");
        x.append(0x80000000, 0, 0, 0, 0);
        x.append(0x686f7572, 0x3b000000, 0, 0, 0);
        Check.due("a byte of 128 first", x.play() + " " + x.errorPosition(), "-1 0");
    }

    private static void zerosLeftOut() {
        Check.edge("Promise 2", "bytes that are 0 are left out");
        BuoyString x = new BuoyString();
        Check.due("no byte", x.append(0, 0, 0, 0, 0), 0);
        Check.due("one byte of four", x.append(0x68000000, 0, 0, 0, 0), 1);
        Check.due("the second one", x.append(0, 0x006f0000, 0, 0, 0), 2);
        Check.due("the third one", x.append(0, 0, 0x00007500, 0, 0), 3);
        Check.due("the fourth one", x.append(0, 0, 0, 0x00000072, 0), 4);
        Check.due("the last one", x.append(0, 0, 0, 0, 0x3b), 5);
        Check.due("play() of hour;", x.play() + " " + x.size(1), "1 1");
        Check.due("some of all", x.append(0x68006f00, 0x00750072, 0x3b00003b, 0, 0x00202000), 8);
        Check.due("play() of hour;;", x.play() + " " + x.errorPosition(), "-1 5");
    }

    private static void lengthOfText() {
        Check.edge("Promise 2", "Returns the length of the text.");
        BuoyString x = new BuoyString();
        for (int n = 1; n <= 25; n++) {
            Check.due("call " + n, x.append(SPACES, SPACES, SPACES, SPACES, SPACES), 20 * n);
        }
        Check.due("no byte to a full buffer", x.append(0, 0, 0, 0, 0), 500);
        x.play();
        Check.due("behind play()", x.append(0x2020, 0, 0, 0, 0), 2);
        x.load();
        Check.due("behind load()", x.append(0x202020, 0, 0, 0, 0), 3);
    }

    private static void longerThan500() {
        Check.edge("Promise 2", "Throws `IllegalStateException` if the text would be longer than 500 bytes");
        BuoyString x = new BuoyString();
        Check.type(x, " ".repeat(490));
        Check.refused("20 bytes to 490", Check.STATE, () -> x.append(SPACES, SPACES, SPACES, SPACES, SPACES));
        Check.refused("11 bytes to 490", Check.STATE, () -> x.append(SPACES, SPACES, 0x202020, 0, 0));
        Check.due("nothing was appended", x.append(0, 0, 0, 0, 0), 490);
        Check.due("10 bytes to 490", x.append(SPACES, SPACES, 0x2020, 0, 0), 500);
        Check.refused("one byte to 500", Check.STATE, () -> x.append(LEAST, 0, 0, 0, 0));
        Check.refused("one byte to 500", Check.STATE, () -> x.append(0, 0x10000, 0, 0, 0));
        Check.refused("one byte to 500", Check.STATE, () -> x.append(0, 0, 0x100, 0, 0));
        Check.refused("one byte to 500", Check.STATE, () -> x.append(0, 0, 0, 0x100, 0));
        Check.refused("one byte to 500", Check.STATE, () -> x.append(0, 0, 0, 0, 1));
        Check.due("the text is as it was", x.play() + " " + x.errorCode(), "0 0");
    }

    private static void loadReplacesAll() {
        Check.edge("Promise 3", "no hour has ended, there are no reports, and no act can be undone");
        BuoyString x = Check.usedString();
        x.setOffset(0, 7);
        Check.play(x, "hour 0 5;".repeat(30));
        x.report(1, 5);
        Check.type(x, Check.setupOf(4));
        Check.due("load()", x.load(), 4);
        Check.due("everything but the accounts", Check.allButAccounts(x), Check.allButAccounts(Check.stringOf(4)));
        Check.due("hours and acts", x.size(1) + " " + x.size(2) + " " + x.size(12), "0 0 0");
        Check.refused("hour 0", Check.INDEX, () -> x.hour(0, 0));
        Check.refused("hour 30", Check.INDEX, () -> x.hour(30, 0));
        Check.refused("undo()", Check.STATE, () -> x.undo());
        Check.due("the first report", x.report(3, 1), 1);
        Check.hour(x, "", "8 8 1 1 0 1");
    }

    private static void loadLeavesTheRest() {
        Check.edge("Promise 3", "it replaces everything but the accounts, the output and the saved states");
        BuoyString x = Check.usedString();
        x.haul(0);
        String accounts = Check.accounts(x);
        x.save(1);
        String world = Check.world(x);
        Check.type(x, Check.setupOf(2));
        Check.due("load()", x.load() + " " + x.size(0), "2 2");
        Check.due("the accounts", Check.accounts(x), accounts);
        Check.due("the output", Check.written(x, 11), "0T-1T-2T 3D");
        Check.refused("its end", Check.INDEX, () -> x.output(11));
        Check.due("a saved state", x.restore(1) + " " + Check.world(x), "4 " + world);
    }

    private static void textIsEmptyBehindLoad() {
        Check.edge("Promise 3", "The text buffer is empty afterwards, also if there is an error.");
        BuoyString x = new BuoyString();
        Check.type(x, Check.setupOf(2));
        Check.due("load()", x.load() + " " + x.append(0, 0, 0, 0, 0), "2 0");
        Check.type(x, Check.setupOf(1));
        Check.due("load() with an error", x.load() + " " + x.append(0, 0, 0, 0, 0), "-1 0");
        Check.due("load() of an empty text", x.load() + " " + x.errorCode() + " " + x.errorPosition(), "-1 1 0");
        Check.type(x, Check.setupOf(3));
        Check.due("load() behind errors", x.load(), 3);
    }

    private static void loadWithError() {
        Check.edge("Promise 3",
                "NONE if the text has an error (then nothing else changes but the results of errorCode() "
                + "and errorPosition())");
        BuoyString x = Check.usedString();
        x.report(1, 4);
        String before = Check.everything(x);
        String[] setups = {"", "x", "terms 1 1 1;", "terms 1 1 1;buoy 7 7 7 7;buoy 9 9 9 9;rope 0 7;stock 7;x",
            Check.setupOf(10) + "buoy", Check.setupOf(5) + "buoy 0"};
        for (String setup : setups) {
            Check.type(x, setup);
            Check.due("load() of " + setup, x.load() + " " + Check.everything(x), "-1 " + before);
            Check.due("the output", Check.written(x, 11), "0T-1T-2T 3D");
        }
        Check.due("undo()", x.undo() + " " + x.buoy(1, 8), "7 0");
        Check.due("the saved state", x.restore(0) + " " + x.size(1), "4 2");
    }

    private static void playStopsAtRefusal() {
        Check.edge("Promise 4", "it stops at the first command that is refused");
        BuoyString x = Check.stringOf(2);
        Check.due("the second one is refused", Check.play(x, "hour;remake 0;hour;hour;"), 1);
        Check.due("no hour behind it", x.size(1) + " " + Check.accounts(x), "1 1 1 0 0 0");
        Check.due("the first one is refused", Check.play(x, "haul 0;hour;haul 0;") + " " + x.size(1), "0 1");
        Check.due("one refusal", Check.accounts(x), "1 2 0 0 0");
        Check.due("the last one is refused", Check.play(x, "stock 5;hour;plan 99;") + " " + x.size(1), "2 2");
        Check.due("acts that answer 0 are no refusals", actsThatAnswer0(), "6 0");
        Check.due("the eleventh one is refused", Check.play(x, "stock 9999;".repeat(12)) + " " + x.account(4),
                "10 1");
        Check.due("the STOCK", x.size(7), 99995);
    }

    private static String actsThatAnswer0() {
        BuoyString x = Check.loaded("terms 5 1 2;buoy 0 1 9;buoy 1 1 9;buoy 2 1 9;stock 1;");
        return Check.play(x, "storm 1 0 1;remake 0;plan 1;hour 0 0 1 0 2 50;haul 2;hour;") + " " + x.size(7);
    }

    private static void textIsEmptyBehindPlay() {
        Check.edge("Promise 4", "The text buffer is empty afterwards, also if there is an error.");
        BuoyString x = new BuoyString();
        Check.due("play()", Check.play(x, "hour;") + " " + x.append(0, 0, 0, 0, 0), "1 0");
        Check.due("play() of an empty text", x.play() + " " + x.size(1), "0 1");
        Check.due("play() with an error", Check.play(x, "hour") + " " + x.append(0, 0, 0, 0, 0), "-1 0");
        Check.due("play() with a refusal", Check.play(x, "haul 0;hour;") + " " + x.append(0, 0, 0, 0, 0), "0 0");
        Check.due("play() behind them", Check.play(x, "hour;") + " " + x.size(1), "1 2");
    }

    private static void commandsThatWereDone() {
        Check.edge("Promise 4", "Returns the number of commands that were done");
        BuoyString x = Check.stringOf(10);
        Check.due("none", x.play(), 0);
        Check.due("one of eleven acts", Check.play(x, "hour 0 1 1 1 2 1 3 1 4 1 5 1 6 1 7 1 8 1 9 1;") + " "
                + x.account(0), "1 11");
        Check.due("forty", Check.play(x, "hour;".repeat(40)), 40);
    }

    private static void playWithError() {
        Check.edge("Promise 4",
                "NONE if the text has an error (then nothing else changes but the results of errorCode() "
                + "and errorPosition())");
        BuoyString x = Check.usedString();
        for (String script : new String[] {"x", "hour;x", "storm 99 0 3;hour 0 5;storm", "haul 3;remake 3;",
                "hour 0 5 0"}) {
            Check.type(x, script);
            String before = Check.everything(x);
            Check.due("play() of " + script, x.play() + " " + Check.everything(x), "-1 " + before);
            Check.due("the output", Check.written(x, 11), "0T-1T-2T 3D");
        }
        Check.due("undo()", x.undo() + " " + x.buoy(0, 8), "7 0");
    }

    private static void latestErrorCode() {
        Check.edge("Promise 5", "0 if its text had no error, or if there was no such call");
        BuoyString x = new BuoyString();
        Check.due("no such call", x.errorCode(), 0);
        Check.type(x, "x");
        Check.due("no such call", x.errorCode(), 0);
        x.play();
        Check.due("play() with an error", x.errorCode(), 1);
        x.addStock(1);
        x.undo();
        x.save(0);
        x.restore(0);
        Check.type(x, Check.setupOf(2));
        Check.due("it stays until the next play() or load()", x.errorCode(), 1);
        x.load();
        Check.due("load() without an error", x.errorCode(), 0);
        x.load();
        Check.due("load() with an error", x.errorCode(), 1);
        x.play();
        Check.due("play() without an error", x.errorCode(), 0);
        Check.play(x, "haul 0;");
        Check.due("a refusal is no error", x.errorCode() + " " + x.errorPosition(), "0 -1");
        Check.type(x, Check.setupOf(1));
        x.load();
        Check.due("the greatest code", x.errorCode(), 5);
    }

    private static void latestErrorPosition() {
        Check.edge("Promise 6", "NONE if its text had no error, or if there was no such call");
        BuoyString x = new BuoyString();
        Check.due("no such call", x.errorPosition(), -1);
        Check.type(x, "x");
        Check.due("no such call", x.errorPosition(), -1);
        x.play();
        Check.due("the first byte", x.errorPosition(), 0);
        Check.type(x, " ".repeat(499) + "x");
        x.load();
        Check.due("the last byte", x.errorPosition(), 499);
        Check.type(x, " ".repeat(500));
        x.load();
        Check.due("the end of 500 bytes", x.errorPosition(), 500);
        x.endHour();
        Check.type(x, "hour;");
        Check.due("it stays until the next play() or load()", x.errorPosition(), 500);
        x.play();
        Check.due("play() without an error", x.errorPosition(), -1);
        x.load();
        Check.due("load() of an empty text", x.errorPosition(), 0);
        Check.type(x, Check.setupOf(2));
        x.load();
        Check.due("load() without an error", x.errorPosition(), -1);
    }

    private static void sizeInRange() {
        Check.edge("Promise 7", "Throws `IllegalArgumentException` if what is out of range");
        BuoyString x = new BuoyString();
        Check.due("the first and the last", x.size(0) + " " + x.size(16), "2 0");
        for (int what : new int[] {-1, 17, 32, LEAST, MOST}) {
            Check.refused("size(" + what + ")", Check.ARGUMENT, () -> x.size(what));
        }
    }

    private static String sizes(BuoyString x) {
        StringBuilder all = new StringBuilder();
        for (int what = 0; what <= 16; what++) {
            all.append(what == 0 ? "" : " ").append(x.size(what));
        }
        return all.toString();
    }

    private static void sizesAtFirst() {
        Check.edge("Promise 7",
                "`what`: 0 buoys, 1 hours that ended (this is also the number of the hour that runs), "
                + "2 kept hours");
        Check.due("at first", sizes(Check.stringOf(10)), "10 0 0 10 0 0 0 0 5 2 2 0 0 0 0 0 0");
        BuoyString x = Check.stringOf(2);
        x.endHour();
        Check.due("behind an hour", sizes(x), "2 1 1 2 0 0 0 0 5 2 2 0 1 0 0 0 0");
        x.undo();
        Check.due("behind undo()", sizes(x), "2 0 0 2 0 0 0 0 5 2 2 0 0 0 0 0 0");
    }

    private static void greatestSizes() {
        Check.edge("Promise 7", "2 kept hours, 3 trusted buoys, 4 suspect ones, 5 dragged ones, 6 broken ropes");
        BuoyString x = Check.stringOf(10);
        Check.play(x, "hour;".repeat(23));
        Check.due("23 hours", x.size(1) + " " + x.size(2), "23 23");
        Check.play(x, "hour;");
        Check.due("24 hours", x.size(1) + " " + x.size(2), "24 24");
        Check.play(x, "hour;");
        Check.due("25 hours", x.size(1) + " " + x.size(2), "25 24");
        x.storm(99, 0, 9);
        Check.due("all suspect, all broken", x.size(3) + " " + x.size(4) + " " + x.size(5) + " " + x.size(6),
                "0 10 0 9");
        BuoyString y = Check.loaded("terms 0 1 9;buoy 0 9 9;buoy 1 1 9;buoy 2 1 9;buoy 3 1 9;buoy 4 1 9;buoy 5 1 9;"
                + "buoy 6 1 9;buoy 7 1 9;");
        Check.play(y, "hour 0 0 1 1 2 2 3 3 4 4 5 5 6 6 7 7;");
        Check.due("all but one dragged", y.size(3) + " " + y.size(4) + " " + y.size(5) + " " + y.size(6), "1 0 7 0");
    }

    private static void levelsOfKeptHours() {
        Check.edge("Promise 7", "13 kept hours that have a level");
        BuoyString x = Check.stringOf(2);
        Check.play(x, "hour 0 1;hour;hour 0 0 1 50;hour 0 1;");
        Check.due("two of four", x.size(13), 2);
        Check.play(x, "hour;".repeat(20));
        Check.due("two of 24", x.size(13) + " " + x.size(2), "2 24");
        x.endHour();
        Check.due("the first one is no more kept", x.size(13), 1);
        Check.play(x, "hour 0 1;".repeat(24));
        Check.due("all 24", x.size(13), 24);
        Check.play(x, "hour 0 1;");
        Check.due("not more than 24", x.size(13), 24);
    }

    private static void stormsSinceSetup() {
        Check.edge("Promise 7", "11 storms since the setup");
        BuoyString x = Check.stringOf(2);
        x.storm(1, 0, 0);
        x.storm(99, 0, 1);
        x.wouldDrift(99, 0, 1);
        Check.due("two", x.size(11), 2);
        x.undo();
        Check.due("one undone", x.size(11), 1);
        Check.type(x, Check.setupOf(2));
        x.load();
        Check.due("none since the setup", x.size(11), 0);
    }

    private static void toldAnewOncePerEnd() {
        Check.edge("Promise 7",
                "14 how often an hour was told anew since the setup (each hour once for each end of an "
                + "hour, also if its level stays)");
        BuoyString x = Check.stringOf(7);
        Check.play(x, "hour 0 0 1 0 2 0 3 0 4 50 5 90;");
        Check.due("none yet", x.size(14), 0);
        Check.play(x, "hour 0 0 1 0 2 0 3 0 4 50 5 90 6 70;");
        Check.due("two hours, though two were taken out of each", x.size(14), 2);
        Check.due("the level stays", Check.told(x, 0), "15 15 1 6 48 0");
        Check.play(x, "hour 0 0 1 0 2 0 3 0 6 70;");
        Check.due("hour 1 once more, and hour 2", x.size(14) + " " + Check.told(x, 1), "4 15 15 1 7 112 0");
        x.undo();
        Check.due("undone", x.size(14), 2);
        Check.type(x, Check.setupOf(7));
        x.load();
        Check.due("since the setup", x.size(14), 0);
    }

    private static void ropeThatCameAndWasUsed() {
        Check.edge("Promise 7",
                "15 rope that came since the setup (STOCK of the setup and by addStock()), 16 rope that "
                + "was used for remaking since the setup");
        BuoyString x = Check.loaded(Check.setupOf(2) + "stock 99998;");
        Check.due("of the setup", x.size(15) + " " + x.size(16), "99998 0");
        x.addStock(2);
        x.addStock(1);
        Check.due("a refused one does not count", x.size(15) + " " + x.size(7), "99999 99999");
        x.storm(1, 0, 1);
        x.remake(0);
        x.addStock(1);
        Check.due("more than STOCK can be", x.size(15) + " " + x.size(16) + " " + x.size(7), "100000 1 99999");
        x.undo();
        x.undo();
        Check.due("undone", x.size(15) + " " + x.size(16) + " " + x.size(7), "99999 0 99999");
        Check.type(x, Check.setupOf(2));
        x.load();
        Check.due("since the setup", x.size(15) + " " + x.size(16) + " " + x.size(7), "0 0 0");
    }

    private static void buoyInRange() {
        Check.edge("Promise 8", "Throws `IndexOutOfBoundsException` if there is no such buoy; "
                + "`IllegalArgumentException` if what is out of range");
        BuoyString x = Check.stringOf(3);
        Check.due("the first and the last", x.buoy(0, 0) + " " + x.buoy(2, 9), "0 0");
        for (int b : new int[] {-1, 3, 10, LEAST, MOST}) {
            Check.refused("buoy(" + b + ", 0)", Check.INDEX, () -> x.buoy(b, 0));
        }
        for (int what : new int[] {-1, 10, LEAST, MOST}) {
            Check.refused("buoy(2, " + what + ")", Check.ARGUMENT, () -> x.buoy(2, what));
            Check.refused("buoy(3, " + what + ")", Check.INDEX, () -> x.buoy(3, what));
        }
    }

    private static void reportOfBuoy() {
        Check.edge("Promise 8", "8 1 if it has reported in the hour that runs, otherwise 0, 9 this report (0 "
                + "without one)");
        BuoyString x = Check.loaded("terms 5 2 2;buoy 0 1 9 7;buoy 1 1 9;");
        Check.due("without one", Check.buoy(x, 0, 8, 9), "0 0");
        x.report(0, 0);
        Check.due("a report of 0", Check.buoy(x, 0, 8, 9) + ", " + Check.buoy(x, 1, 8, 9), "1 0, 0 0");
        x.report(0, -9999);
        Check.due("the least one, and not its value", Check.buoy(x, 0, 8, 9), "1 -9999");
        x.endHour();
        Check.due("in the next hour", Check.buoy(x, 0, 8, 9), "0 0");
        x.undo();
        Check.due("behind undo()", Check.buoy(x, 0, 8, 9), "1 -9999");
        x.undo();
        x.undo();
        Check.due("behind undo() of both", Check.buoy(x, 0, 8, 9), "0 0");
    }

    private static void ropeInRange() {
        Check.edge("Promise 9",
                "Throws `IndexOutOfBoundsException` if there is no such rope; `IllegalArgumentException` "
                + "if what is out of range");
        BuoyString x = Check.stringOf(3);
        x.storm(11, 1, 2);
        Check.due("the first and the last", x.rope(0, 0) + " " + x.rope(1, 0), "1 1");
        Check.due("3 1 if it is broken, otherwise 0", x.rope(0, 3) + " " + x.rope(1, 3), "0 1");
        for (int k : new int[] {-1, 2, 3, 9, LEAST, MOST}) {
            Check.refused("rope(" + k + ", 0)", Check.INDEX, () -> x.rope(k, 0));
        }
        for (int what : new int[] {-1, 4, LEAST, MOST}) {
            Check.refused("rope(1, " + what + ")", Check.ARGUMENT, () -> x.rope(1, what));
            Check.refused("rope(2, " + what + ")", Check.INDEX, () -> x.rope(2, what));
        }
    }

    private static void accountInRange() {
        Check.edge("Promise 10", "Throws `IllegalArgumentException` if what is out of range");
        BuoyString x = new BuoyString();
        Check.due("at first", Check.accounts(x), "0 0 0 0 0");
        for (int what : new int[] {-1, 5, 17, LEAST, MOST}) {
            Check.refused("account(" + what + ")", Check.ARGUMENT, () -> x.account(what));
        }
    }

    private static void undoneActsCount() {
        Check.edge("Promise 10", "0 acts that were done since this object was created (those that were undone "
                + "count, too)");
        BuoyString x = Check.stringOf(2);
        x.addStock(1);
        x.addStock(1);
        x.save(0);
        x.undo();
        x.undo();
        Check.due("two undone", x.account(0), 2);
        x.restore(0);
        Check.type(x, Check.setupOf(2));
        x.load();
        Check.due("behind restore() and load()", x.account(0), 2);
        x.report(0, 1);
        Check.due("one more", x.account(0), 3);
    }

    private static void refusalsCount() {
        Check.edge("Promise 10", "1 to 4 refusals with this reason");
        BuoyString x = Check.loaded(Check.setupOf(2) + "stock 99999;");
        x.haul(0);
        x.remake(0);
        Check.due("reason 1", Check.accounts(x), "0 2 0 0 0");
        x.addStock(1);
        Check.due("reason 4", Check.accounts(x), "0 2 0 0 1");
        x.remakeBy(99);
        Check.due("reason 3", Check.accounts(x), "0 2 0 1 1");
        Check.type(x, Check.setupOf(2));
        x.load();
        x.storm(1, 0, 1);
        x.remake(0);
        Check.due("reason 2", Check.accounts(x), "1 2 1 1 1");
        x.undo();
        Check.due("behind undo()", Check.accounts(x), "1 2 1 1 1");
    }
}
