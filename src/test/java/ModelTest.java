import java.util.ArrayList;
import java.util.List;

/** Long runs of calls on a BuoyString and a Model, with all their answers compared. The runs are always the same. */
public final class ModelTest {
    private static final int RUNS = 120;
    private static final int CALLS = 170;

    private long seed;
    private BuoyString x;
    private Model m;
    private final List<String> calls = new ArrayList<>();
    private int wrong = 0;
    // a usual level of this run, and how far the good buoys are from it
    private int sea;
    private int spread;
    // some runs keep many hours, some have many plans of one length, some have nearly all the rope that can be
    private boolean isLong;
    private boolean isTight;
    private boolean isRich;

    public static void main(String[] args) {
        int answers = 0;
        for (int run = 0; run < RUNS; run++) {
            ModelTest t = new ModelTest();
            t.seed = run * 7919L + 17;
            if (t.isWrong(run)) {
                System.out.println("run " + run + ":");
                t.calls.forEach(c -> System.out.println("  " + c));
                Check.due("run " + run, "wrong", "right");
                break;
            }
            answers += t.calls.size();
        }
        Check.due("the runs made calls", answers >= RUNS * CALLS, true);
        Check.end("ModelTest");
    }

    private int random(int bound) {
        seed = seed * 6364136223846793005L + 1442695040888963407L;
        return (int) ((seed >>> 33) % bound);
    }

    private boolean chance(int percent) {
        return random(100) < percent;
    }

    private boolean isWrong(int run) {
        x = new BuoyString();
        m = new Model();
        sea = random(400) - 200;
        spread = 1 + random(12);
        isLong = run % 3 == 0;
        isTight = run % 3 == 1;
        isRich = run % 5 == 0;
        if (run % 10 != 0) {
            setup();
        }
        for (int n = 0; n < CALLS && wrong == 0; n++) {
            step();
            compareAll();
        }
        return wrong > 0;
    }

    /** Makes a call on both, and notes it. */
    private void same(String call, Check.Call ofX, Check.Call ofModel) {
        String got = Check.answer(ofX);
        String want = Check.answer(ofModel);
        calls.add(call + " = " + got);
        compare(call, got, want);
    }

    private void compare(String call, String got, String want) {
        if (!got.equals(want)) {
            wrong++;
            calls.add(call + " answered " + got + ", due is " + want);
        }
    }

    private int buoys() {
        return m.now.buoys.size();
    }

    private int buoy() {
        return chance(3) ? random(2) * 12 - 1 : random(buoys());
    }

    private int report() {
        int kind = random(100);
        return kind < 70 ? sea + random(spread * 2 + 1) - spread
                : kind < 95 ? sea + random(60) - 30
                : kind < 98 ? (random(2) * 2 - 1) * 9999
                : (random(2) * 2 - 1) * 10000;
    }

    private int force() {
        int kind = random(20);
        return kind == 0 ? 0 : kind == 1 ? 100 : kind < 5 ? 1 + random(99) : 1 + random(25);
    }

    private void step() {
        int kind = random(100);
        if (kind < 4 && isLong || kind >= 78 && kind < 94 && isLong && chance(70)) {
            wholeHour();
        } else if (kind < 4) {
            setup();
        } else if (kind < 12) {
            script();
        } else if (kind < 14) {
            garbage();
        } else if (kind < 30) {
            int b = buoy();
            int r = report();
            same("report(" + b + ", " + r + ")", () -> x.report(b, r), () -> m.report(b, r));
        } else if (kind < 50) {
            wholeHour();
        } else if (kind < 58) {
            int f = force();
            int a = buoy();
            int b = chance(80) ? Math.max(a, buoy()) : buoy();
            same("storm(" + f + ", " + a + ", " + b + ")", () -> x.storm(f, a, b), () -> m.storm(f, a, b));
        } else if (kind < 78) {
            smallAct(random(7));
        } else if (kind < 88) {
            same("undo()", () -> x.undo(), () -> m.undo());
        } else if (kind < 91) {
            int slot = random(5) - 1;
            same("save(" + slot + ")", () -> x.save(slot), () -> m.save(slot));
        } else if (kind < 94) {
            int slot = random(5) - 1;
            same("restore(" + slot + ")", () -> x.restore(slot), () -> m.restore(slot));
        } else if (chance(50)) {
            same("writeHours()", () -> x.writeHours(), () -> m.writeHours());
        } else {
            same("writeString()", () -> x.writeString(), () -> m.writeString());
        }
    }

    private void wholeHour() {
        for (int b = 0; b < buoys(); b++) {
            if (chance(85)) {
                int buoy = b;
                int r = sea + random(spread * 2 + 1) - spread + (b == sea % 3 + 3 ? 40 : 0);
                same("report(" + b + ", " + r + ")", () -> x.report(buoy, r), () -> m.report(buoy, r));
            }
        }
        same("endHour()", () -> x.endHour(), () -> m.endHour());
    }

    private void smallAct(int kind) {
        int b = buoy();
        if (kind == 0) {
            same("remake(" + b + ")", () -> x.remake(b), () -> m.remake(b));
        } else if (kind == 1) {
            int f = force();
            same("remakeBy(" + f + ")", () -> x.remakeBy(f), () -> m.remakeBy(f));
        } else if (kind == 2) {
            int h = chance(50) ? b : firstDragged();
            same("haul(" + h + ")", () -> x.haul(h), () -> m.haul(h));
        } else if (kind == 3) {
            int n = chance(70) ? random(500) : random(10001);
            same("addStock(" + n + ")", () -> x.addStock(n), () -> m.addStock(n));
        } else if (kind == 4) {
            int o = chance(70) ? random(20) - 10 : random(203) - 101;
            same("setOffset(" + b + ", " + o + ")", () -> x.setOffset(b, o), () -> m.setOffset(b, o));
        } else if (kind == 5) {
            int h = random(104) - 2;
            same("setHold(" + b + ", " + h + ")", () -> x.setHold(b, h), () -> m.setHold(b, h));
        } else {
            int t = chance(80) ? random(30) : random(1003) - 1;
            int l = chance(80) ? 1 + random(4) : random(11);
            int c = chance(80) ? 1 + random(4) : random(11);
            same("setTerms(" + t + ", " + l + ", " + c + ")", () -> x.setTerms(t, l, c), () -> m.setTerms(t, l, c));
        }
    }

    private int firstDragged() {
        for (int b = 0; b < buoys(); b++) {
            if (m.now.buoys.get(b).trust == Model.Trust.DRAGGED) {
                return b;
            }
        }
        return 0;
    }

    // ---- texts

    private void type(String text) {
        for (int p = 0; p < text.length(); p += 20) {
            int[] w = new int[5];
            for (int i = 0; i < 20; i++) {
                w[i / 4] = w[i / 4] << 8 | (p + i < text.length() ? text.charAt(p + i) : 0);
            }
            same("append(" + text.substring(p, Math.min(p + 20, text.length())) + ")",
                    () -> x.append(w[0], w[1], w[2], w[3], w[4]), () -> m.append(w[0], w[1], w[2], w[3], w[4]));
        }
    }

    private String gap() {
        return chance(90) ? " " : chance(50) ? "\n  " : "   ";
    }

    private void setup() {
        StringBuilder s = new StringBuilder("terms " + random(30) + gap() + (1 + random(4)) + " " + (1 + random(4)) + ";");
        int count = chance(5) ? 1 : 2 + random(9);
        int home = random(10);
        for (int b = 0; b < count; b++) {
            s.append("buoy ").append(home).append(gap()).append(1 + random(chance(50) ? 1 : 9)).append(' ')
                    .append(isTight ? random(3) * 10 : random(30));
            if (chance(30)) {
                s.append(chance(50) ? "-" : " ").append(random(20));
            }
            s.append(';');
            home += 1 + random(isTight ? 2 : chance(50) ? 3 : 200);
            if (b > 0 && chance(25)) {
                s.append("rope ").append(random(b)).append(' ').append(1 + random(40)).append(';');
            }
        }
        if (chance(70)) {
            s.append("stock ").append(isRich ? 99999 - random(2000) : random(1000)).append(';');
        }
        type(spoilt(s.toString()));
        same("load()", () -> x.load(), () -> m.load());
    }

    private void script() {
        StringBuilder s = new StringBuilder();
        int commands = chance(5) ? 41 : random(7);
        for (int n = 0; n < commands; n++) {
            s.append(command(commands > 40 ? 6 : random(6))).append(gap().trim());
        }
        type(spoilt(s.toString()));
        same("play()", () -> x.play(), () -> m.play());
    }

    private String command(int kind) {
        int n = buoys();
        switch (kind) {
            case 0:
                StringBuilder s = new StringBuilder("hour");
                int from = random(n);
                for (int i = 0; i < 1 + random(n); i++) {
                    int r = report();
                    s.append(gap()).append((from + i) % n).append(r < 0 ? "" : " ").append(r);
                }
                return s + ";";
            case 1:
                int a = random(n);
                return "storm " + (1 + random(20)) + gap() + a + " " + (a + random(n - a)) + ";";
            case 2:
                return "remake " + random(n - 1) + ";";
            case 3:
                return "plan " + (1 + random(20)) + ";";
            case 4:
                return "haul " + firstDragged() + ";";
            case 5:
                return "stock " + (1 + random(300)) + ";";
            default:
                return "hour;";
        }
    }

    /** Most texts stay; others get a wrong byte, lose one, or end early. */
    private String spoilt(String text) {
        if (text.isEmpty() || chance(70)) {
            return text;
        }
        int p = random(text.length());
        String signs = "0159; -\nabuo\u00ffX/:`{";
        switch (random(5)) {
            case 0:
                return text.substring(0, p);
            case 1:
                return text.substring(0, p) + text.substring(p + 1);
            case 2:
                return text.substring(0, p) + signs.charAt(random(signs.length())) + text.substring(p + 1);
            case 3:
                return text.substring(0, p) + signs.charAt(random(signs.length())) + text.substring(p);
            default:
                return text.substring(0, p) + text.substring(random(text.length()));
        }
    }

    private void garbage() {
        String[] tokens = {"terms", "buoy", "rope", "stock", "hour", "storm", "remake", "plan", "haul", ";", "-", "0",
            "1", "2", "5", "10", "100", "99999999999", " ", "\n", "x", "hou", "!"};
        StringBuilder s = new StringBuilder(chance(50) ? "terms 5 1 1;" : "");
        for (int n = random(12); n >= 0; n--) {
            s.append(tokens[random(tokens.length)]).append(chance(70) ? " " : "");
        }
        type(s.toString());
        if (chance(50)) {
            same("play()", () -> x.play(), () -> m.play());
        } else if (chance(90)) {
            same("load()", () -> x.load(), () -> m.load());
        }
    }

    // ---- what both tell

    private void check(String call, Check.Call ofX, Check.Call ofModel) {
        compare(call, Check.answer(ofX), Check.answer(ofModel));
    }

    private void compareAll() {
        check("errorCode()", () -> x.errorCode(), () -> m.code);
        check("errorPosition()", () -> x.errorPosition(), () -> m.position);
        check("append()", () -> x.append(0, 0, 0, 0, 0), () -> m.text.length());
        for (int what = -1; what <= 17; what++) {
            int w = what;
            check("size(" + w + ")", () -> x.size(w), () -> m.size(w));
            check("account(" + w + ")", () -> x.account(w), () -> m.account(w));
        }
        for (int buoy = -1; buoy <= buoys(); buoy++) {
            compareBuoy(buoy);
        }
        int first = m.now.ended - m.now.hours.size();
        for (int hour = first - 1; hour <= m.now.ended; hour++) {
            compareHour(hour);
        }
        check("extreme(true)", () -> x.extreme(true), () -> m.extreme(true));
        check("extreme(false)", () -> x.extreme(false), () -> m.extreme(false));
        check("meanLevel()", () -> x.meanLevel(), () -> m.meanLevel());
        check("levelNow()", () -> x.levelNow(), () -> m.levelNow());
        check("segments()", () -> x.segments(), () -> m.segments());
        check("weakest()", () -> x.weakest(), () -> m.weakest());
        check("leastStorm()", () -> x.leastStorm(), () -> m.leastStorm());
        for (int n = 0; n < 3; n++) {
            compareForce(force(), buoy(), buoy());
        }
        check("output", () -> Check.written(x, m.output.length()), () -> m.output);
        compare("output(-1)", Check.answer(() -> x.output(-1)), "throws java.lang.IndexOutOfBoundsException");
        compare("output(its length)", Check.answer(() -> x.output(m.output.length())),
                "throws java.lang.IndexOutOfBoundsException");
    }

    private void compareBuoy(int b) {
        for (int what = -1; what <= 10; what++) {
            int w = what;
            check("buoy(" + b + ", " + w + ")", () -> x.buoy(b, w), () -> m.buoy(b, w));
            check("rope(" + b + ", " + w + ")", () -> x.rope(b, w), () -> m.rope(b, w));
        }
        check("segmentOf(" + b + ")", () -> x.segmentOf(b), () -> m.segmentOf(b));
    }

    private void compareHour(int h) {
        for (int what = -1; what <= 5; what++) {
            int w = what;
            check("hour(" + h + ", " + w + ")", () -> x.hour(h, w), () -> m.hour(h, w));
        }
        check("level(" + h + ")", () -> x.level(h), () -> m.level(h));
        check("tide(" + h + ")", () -> x.tide(h), () -> m.tide(h));
        check("agreement(" + h + ")", () -> x.agreement(h), () -> m.agreement(h));
        check("needed(" + h + ")", () -> x.needed(h), () -> m.needed(h));
        int without = random(1 << 11) - 50;
        check("levelWithout(" + h + ", " + without + ")", () -> x.levelWithout(h, without),
                () -> m.levelWithout(h, without));
        for (int b = -1; b <= buoys(); b++) {
            int buoy = b;
            check("why(" + h + ", " + b + ")", () -> x.why(h, buoy), () -> m.why(h, buoy));
            check("value(" + h + ", " + b + ")", () -> x.value(h, buoy), () -> m.value(h, buoy));
        }
    }

    private void compareForce(int f, int a, int b) {
        check("lacks(" + f + ")", () -> x.lacks(f), () -> m.lacks(f));
        check("plan(" + f + ")", () -> x.plan(f), () -> m.plan(f));
        check("planLength(" + f + ")", () -> x.planLength(f), () -> m.planLength(f));
        check("wouldBreak(" + f + ", " + a + ", " + b + ")", () -> x.wouldBreak(f, a, b), () -> m.wouldBreak(f, a, b));
        check("wouldDrift(" + f + ", " + a + ", " + b + ")", () -> x.wouldDrift(f, a, b), () -> m.wouldDrift(f, a, b));
    }
}
