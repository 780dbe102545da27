/** Section 4 of the document, ACTS, REASONS, UNDO: a test for each sentence with a boundary. */
public final class Section4Test {
    public static void main(String[] args) {
        actsAreCounted();
        otherCallsAreNoActs();
        refusedRemakes();
        refusedPlan();
        refusedHauls();
        refusedStock();
        refusedInScript();
        latest8();
        undoneOfNothing();
        Check.end("Section4Test");
    }

    private static void act(BuoyString x, String call, Check.Call made) {
        int before = x.account(0);
        Check.answer(made);
        Check.due("acts behind " + call, x.account(0) - before, 1);
    }

    private static void actsAreCounted() {
        Check.edge("Section 4", "Acts are the methods from report() to setTerms().");
        BuoyString x = Check.usedString();
        act(x, "report()", () -> x.report(1, 5));
        act(x, "endHour()", () -> x.endHour());
        act(x, "storm()", () -> x.storm(1, 0, 0));
        act(x, "remake()", () -> x.remake(0));
        act(x, "remakeBy()", () -> x.remakeBy(1));
        act(x, "haul()", () -> x.haul(3));
        act(x, "addStock()", () -> x.addStock(1));
        act(x, "setOffset()", () -> x.setOffset(0, 1));
        act(x, "setHold()", () -> x.setHold(0, 1));
        act(x, "setTerms()", () -> x.setTerms(1, 1, 1));
        Check.due("refusals", Check.accounts(x).substring(Check.accounts(x).indexOf(' ')), " 0 0 0 0");
        Check.due("acts that can be undone", x.size(12), 8);
    }

    private static void otherCallsAreNoActs() {
        Check.edge("Section 4", "Acts are the methods from report() to setTerms()");
        BuoyString x = Check.usedString();
        String before = Check.everything(x);
        x.levelNow();
        x.levelWithout(0, 1);
        x.needed(0);
        x.wouldBreak(99, 0, 3);
        x.wouldDrift(99, 0, 3);
        x.leastStorm();
        x.lacks(99);
        x.plan(1);
        x.planLength(1);
        x.writeHours();
        x.output(0);
        x.save(1);
        x.play();
        Check.due("everything", Check.everything(x), before);
        int acts = x.account(0);
        x.undo();
        x.restore(1);
        x.load();
        Check.type(x, Check.setupOf(2));
        x.load();
        Check.due("acts that were done", x.account(0), acts);
    }

    /** Makes a call that is refused with this reason, and sees that only the account of the reason grows. */
    private static void refused(BuoyString x, String call, int reason, Check.Call made) {
        String before = Check.allButAccounts(x);
        String output = Check.written(x, 4);
        int done = x.account(0);
        int refusals = x.account(reason);
        Check.due(call, Check.answer(made), -reason);
        Check.due("all but the accounts behind " + call, Check.allButAccounts(x), before);
        Check.due("the output", Check.written(x, 4), output);
        Check.due("the accounts behind " + call, x.account(0) + " " + x.account(reason), done + " " + (refusals + 1));
        Check.due("all refusals", x.account(1) + x.account(2) + x.account(3) + x.account(4), refusals + 1);
    }

    private static void refusedRemakes() {
        Check.edge("Section 4", "a refused act changes nothing but the accounts (remake)");
        BuoyString x = Check.usedString();
        refused(x, "remake() of a whole rope", 1, () -> x.remake(1));
        BuoyString y = Check.usedString();
        refused(y, "remake() of a rope that is too long", 2, () -> y.remake(2));
        Check.due("undo() of the act ahead of it", y.undo() + " " + y.buoy(0, 8), "7 0");
    }

    private static void refusedPlan() {
        Check.edge("Section 4", "a refused act changes nothing but the accounts (remakeBy)");
        BuoyString x = Check.usedString();
        refused(x, "remakeBy() without a plan", 3, () -> x.remakeBy(99));
        Check.due("undo() of the act ahead of it", x.undo() + " " + x.buoy(0, 8), "7 0");
    }

    private static void refusedHauls() {
        Check.edge("Section 4", "a refused act changes nothing but the accounts (haul)");
        BuoyString x = Check.usedString();
        refused(x, "haul() of a trusted buoy", 1, () -> x.haul(0));
        BuoyString y = Check.usedString();
        y.haul(3);
        refused(y, "haul() of a suspect buoy", 1, () -> y.haul(3));
        Check.due("undo() of the act ahead of it", y.undo() + " " + y.buoy(3, 4), "7 2");
    }

    private static void refusedStock() {
        Check.edge("Section 4", "a refused act changes nothing but the accounts (addStock)");
        BuoyString x = Check.loaded(Check.setupOf(2) + "stock 99999;");
        x.writeString();
        refused(x, "addStock() to a full STOCK", 4, () -> x.addStock(1));
        BuoyString y = Check.loaded(Check.setupOf(2) + "stock 90001;");
        y.writeString();
        refused(y, "addStock() of one too much", 4, () -> y.addStock(9999));
        Check.refused("undo()", Check.STATE, () -> y.undo());
    }

    private static void refusedInScript() {
        Check.edge("Section 4", "An act is done, or refused with a reason");
        BuoyString x = Check.usedString();
        String before = Check.allButAccounts(x);
        int acts = x.account(0);
        Check.due("scripts that are refused at once", Check.play(x, "remake 1;hour;") + Check.play(x,
                "remake 2;hour;")
                + Check.play(x, "plan 99;hour;") + Check.play(x, "haul 0;hour;"), 0);
        Check.due("nothing else changes", Check.allButAccounts(x), before);
        Check.due("the accounts", Check.accounts(x), acts + " 2 1 1 0");
    }

    private static void latest8() {
        Check.edge("Section 4", "The latest 8 acts that were done can be undone.");
        BuoyString x = Check.stringOf(2);
        for (int n = 1; n <= 9; n++) {
            Check.due("STOCK", x.addStock(1), n);
            Check.due("acts that can be undone behind " + n, x.size(12), Math.min(n, 8));
        }
        x.haul(0);
        Check.due("a refused act is none of them", x.size(12), 8);
        for (int n = 7; n >= 0; n--) {
            Check.due("undo()", x.undo() + " " + x.size(7), n + " " + (n + 1));
        }
        Check.refused("a ninth undo()", Check.STATE, () -> x.undo());
        Check.due("the first act stays", x.size(7) + " " + x.size(12), "1 0");
        for (int n = 0; n < 20; n++) {
            x.addStock(1);
        }
        for (int n = 7; n >= 0; n--) {
            Check.due("undo() behind twenty more", x.undo() + " " + x.size(7), n + " " + (n + 13));
        }
    }

    private static void same(BuoyString x, String call, Check.Call made) {
        int left = x.size(12);
        String before = Check.world(x);
        Check.answer(made);
        Check.due("nothing is different behind " + call, Check.world(x), before);
        Check.due("acts that can be undone behind " + call, x.size(12), left + 1);
        Check.due("undo() of " + call, x.undo() + " " + Check.world(x), left + " " + before);
    }

    private static void undoneOfNothing() {
        Check.edge("Section 4", "An act that was done can be undone also if nothing is different by it.");
        BuoyString x = Check.stringOf(3);
        x.report(1, 7);
        same(x, "the same report", () -> x.report(1, 7));
        same(x, "remakeBy() of no rope", () -> x.remakeBy(9));
        same(x, "the same OFFSET", () -> x.setOffset(1, 0));
        same(x, "the same HOLD", () -> x.setHold(1, 9));
        same(x, "the same terms", () -> x.setTerms(5, 2, 2));
        Check.due("they count as acts", x.account(0), 6);
    }
}
