import java.math.BigInteger;
import java.util.ArrayDeque;
import java.util.ArrayList;
import java.util.Comparator;
import java.util.Deque;
import java.util.HashMap;
import java.util.List;
import java.util.Map;
import java.util.NoSuchElementException;
import java.util.TreeMap;
import java.util.TreeSet;
import java.util.regex.Matcher;
import java.util.regex.Pattern;

/** The document written a second time, with collections and whole copies, to compare answers with. */
final class Model {
    enum Trust { TRUSTED, SUSPECT, DRAGGED }

    static final class Buoy {
        int home;
        int vote;
        int hold;
        int offset;
        Trust trust = Trust.TRUSTED;
        int strikes;
        int agreed;
        int since = -1;

        Buoy copy() {
            Buoy b = new Buoy();
            b.home = home;
            b.vote = vote;
            b.hold = hold;
            b.offset = offset;
            b.trust = trust;
            b.strikes = strikes;
            b.agreed = agreed;
            b.since = since;
            return b;
        }
    }

    static final class Rope {
        int strength = 10;
        int wear;
        boolean broken;

        Rope copy() {
            Rope r = new Rope();
            r.strength = strength;
            r.wear = wear;
            r.broken = broken;
            return r;
        }
    }

    static final class Past {
        Map<Integer, Integer> values = new TreeMap<>();
        Map<Integer, Trust> trusts = new HashMap<>();
        TreeSet<Integer> voters = new TreeSet<>();
        TreeSet<Integer> out = new TreeSet<>();
        TreeSet<Integer> supporters = new TreeSet<>();
        Integer level;

        Past copy() {
            Past p = new Past();
            p.values.putAll(values);
            p.trusts.putAll(trusts);
            p.voters.addAll(voters);
            p.out.addAll(out);
            p.supporters.addAll(supporters);
            p.level = level;
            return p;
        }
    }

    static final class World {
        List<Buoy> buoys = new ArrayList<>();
        List<Rope> ropes = new ArrayList<>();
        TreeMap<Integer, Past> hours = new TreeMap<>();
        TreeMap<Integer, Integer> reports = new TreeMap<>();
        int tolerance;
        int limit;
        int calm;
        int stock;
        int ended;
        int storms;
        int retold;
        int came;
        int used;

        World copy() {
            World w = new World();
            buoys.forEach(b -> w.buoys.add(b.copy()));
            ropes.forEach(r -> w.ropes.add(r.copy()));
            hours.forEach((h, p) -> w.hours.put(h, p.copy()));
            w.reports.putAll(reports);
            w.tolerance = tolerance;
            w.limit = limit;
            w.calm = calm;
            w.stock = stock;
            w.ended = ended;
            w.storms = storms;
            w.retold = retold;
            w.came = came;
            w.used = used;
            return w;
        }

        long count(Trust trust) {
            return buoys.stream().filter(b -> b.trust == trust).count();
        }

        int length(int rope) {
            return buoys.get(rope + 1).home - buoys.get(rope).home;
        }

        List<List<Integer>> segments() {
            List<List<Integer>> all = new ArrayList<>();
            for (int b = 0; b < buoys.size(); b++) {
                if (b == 0 || ropes.get(b - 1).broken) {
                    all.add(new ArrayList<>());
                }
                all.get(all.size() - 1).add(b);
            }
            return all;
        }

        int holds(List<Integer> segment) {
            return segment.stream().mapToInt(b -> buoys.get(b).hold).sum();
        }

        boolean bears(int force) {
            return segments().stream().allMatch(s -> holds(s) >= force * s.size());
        }

        /** (2) and (3): supporters and level. */
        void tell(TreeSet<Integer> voters, Map<Integer, Integer> values, Past into) {
            into.supporters = new TreeSet<>();
            into.level = null;
            List<Integer> each = new ArrayList<>();
            for (int v : voters) {
                for (int n = 0; n < buoys.get(v).vote; n++) {
                    each.add(values.get(v));
                }
            }
            if (each.isEmpty()) {
                return;
            }
            each.sort(Comparator.naturalOrder());
            int middle = each.get((each.size() + 1) / 2 - 1);
            long votes = 0;
            long sum = 0;
            for (int v : voters) {
                if (values.get(v) >= middle - tolerance && values.get(v) <= middle + tolerance) {
                    into.supporters.add(v);
                    votes += buoys.get(v).vote;
                    sum += (long) buoys.get(v).vote * values.get(v);
                }
            }
            if (votes > each.size() - votes) {
                into.level = (int) Math.floor((double) sum / votes);
            }
        }

        Past running() {
            Past p = new Past();
            reports.forEach((b, r) -> p.values.put(b, r - buoys.get(b).offset));
            for (int b = 0; b < buoys.size(); b++) {
                p.trusts.put(b, buoys.get(b).trust);
                if (reports.containsKey(b) && buoys.get(b).trust == Trust.TRUSTED) {
                    p.voters.add(b);
                }
            }
            tell(p.voters, p.values, p);
            return p;
        }

        int endHour() {
            Past p = running();
            List<Integer> fallen = new ArrayList<>();
            if (p.level != null) {
                for (int v : p.voters) {
                    Buoy b = buoys.get(v);
                    if (p.supporters.contains(v)) {
                        b.strikes = 0;
                        b.since = -1;
                    } else {
                        b.since = b.strikes == 0 ? ended : b.since;
                        b.strikes += 1;
                    }
                }
                for (int v : p.values.keySet()) {
                    Buoy b = buoys.get(v);
                    if (b.trust == Trust.SUSPECT) {
                        boolean near = Math.abs(p.values.get(v) - p.level) <= tolerance;
                        b.agreed = near ? b.agreed + 1 : 0;
                    }
                }
                for (Buoy b : buoys) {
                    if (b.trust == Trust.SUSPECT && b.agreed >= calm) {
                        b.trust = Trust.TRUSTED;
                        b.agreed = 0;
                    }
                }
                for (int v : p.voters) {
                    if (buoys.get(v).strikes >= limit) {
                        buoys.get(v).trust = Trust.DRAGGED;
                        fallen.add(v);
                    }
                }
            }
            hours.put(ended, p);
            if (hours.size() > 24) {
                hours.pollFirstEntry();
            }
            TreeSet<Integer> anew = new TreeSet<>();
            for (int v : fallen) {
                for (int h : hours.tailMap(buoys.get(v).since, true).keySet()) {
                    if (hours.get(h).voters.remove(v)) {
                        hours.get(h).out.add(v);
                        anew.add(h);
                    }
                }
            }
            for (int h : anew) {
                tell(hours.get(h).voters, hours.get(h).values, hours.get(h));
            }
            retold += anew.size();
            ended++;
            reports.clear();
            return fallen.size();
        }

        int storm(int force, int first, int last) {
            for (int k = first; k < last; k++) {
                Rope r = ropes.get(k);
                if (!r.broken) {
                    r.wear += force;
                    r.broken = r.wear > r.strength;
                }
            }
            int drifts = 0;
            for (List<Integer> segment : segments()) {
                long hits = segment.stream().filter(b -> b >= first && b <= last).count();
                if (holds(segment) < force * hits) {
                    for (int b : segment) {
                        drifts += 1 << b;
                        Buoy buoy = buoys.get(b);
                        if (buoy.trust != Trust.DRAGGED) {
                            buoy.trust = Trust.SUSPECT;
                            buoy.strikes = 0;
                            buoy.agreed = 0;
                            buoy.since = -1;
                        }
                    }
                }
            }
            storms++;
            return drifts;
        }

        /** Every set of broken ropes that would do, the best one first. */
        TreeSet<int[]> plans(int force) {
            TreeSet<int[]> plans = new TreeSet<>(Comparator.<int[]>comparingInt(p -> p[1])
                    .thenComparingInt(p -> p[2]).thenComparingInt(p -> p[0]));
            collect(0, new int[3], force, plans);
            return plans;
        }

        private void collect(int from, int[] plan, int force, TreeSet<int[]> plans) {
            if (plan[1] > stock) {
                return;
            }
            if (bears(force)) {
                plans.add(plan);
            }
            for (int k = from; k < ropes.size(); k++) {
                if (ropes.get(k).broken) {
                    ropes.get(k).broken = false;
                    collect(k + 1, new int[] {plan[0] + (1 << k), plan[1] + length(k), plan[2] + 1}, force, plans);
                    ropes.get(k).broken = true;
                }
            }
        }

        void renew(int rope) {
            stock -= length(rope);
            used += length(rope);
            ropes.get(rope).wear = 0;
            ropes.get(rope).broken = false;
        }
    }

    World now = new World();
    final Deque<World> undos = new ArrayDeque<>();
    final World[] saved = new World[2];
    final int[] accounts = new int[5];
    String text = "";
    String output = "";
    int code = 0;
    int position = -1;

    Model() {
        text = "terms 20 3 2;buoy 0 1 9;buoy 100 1 9;";
        load();
    }

    // ---- texts

    int append(int... fours) {
        StringBuilder more = new StringBuilder(text);
        for (int four : fours) {
            for (byte one : java.nio.ByteBuffer.allocate(4).putInt(four).array()) {
                if (one != 0) {
                    more.append((char) (one & 255));
                }
            }
        }
        if (more.length() > 500) {
            throw new IllegalStateException();
        }
        text = more.toString();
        return text.length();
    }

    /** A token that is wrong. */
    static final class Wrong extends Exception {
        private static final long serialVersionUID = 1;
        final int code;
        final int position;

        Wrong(int code, int position) {
            this.code = code;
            this.position = position;
        }
    }

    final class Tokens {
        final List<String> tokens = new ArrayList<>();
        final List<Integer> starts = new ArrayList<>();
        int next = 0;

        Tokens() {
            Matcher m = Pattern.compile("[a-z]+|[0-9]+|[^ \n]", Pattern.DOTALL).matcher(text);
            while (m.find()) {
                tokens.add(m.group());
                starts.add(m.start());
            }
            tokens.add("");
            starts.add(text.length());
        }

        String look() {
            return tokens.get(next);
        }

        Wrong wrong(int itsCode) {
            return new Wrong(itsCode, starts.get(next));
        }

        boolean isNumber() {
            return look().matches("[0-9]+");
        }

        boolean takeIf(String token) {
            if (look().equals(token)) {
                next++;
                return true;
            }
            return false;
        }

        void take(String token) throws Wrong {
            if (!takeIf(token)) {
                throw wrong(1);
            }
        }

        int number(int least, int most, TreeSet<Integer> forbidden) throws Wrong {
            if (!isNumber()) {
                throw wrong(1);
            }
            BigInteger n = new BigInteger(look());
            if (n.compareTo(BigInteger.valueOf(least)) < 0 || n.compareTo(BigInteger.valueOf(most)) > 0) {
                throw wrong(2);
            }
            if (forbidden.contains(n.intValue())) {
                throw wrong(3);
            }
            next++;
            return n.intValue();
        }

        int number(int least, int most) throws Wrong {
            return number(least, most, new TreeSet<>());
        }

        int signed(int most) throws Wrong {
            return takeIf("-") ? -number(0, most) : number(0, most);
        }
    }

    private boolean attempt(Deque<Runnable> acts, boolean isSetup) {
        code = 0;
        position = -1;
        try {
            if (isSetup) {
                setup(acts);
            } else {
                script(acts);
            }
        } catch (Wrong w) {
            code = w.code;
            position = w.position;
        }
        text = "";
        return code == 0;
    }

    private static TreeSet<Integer> below(int bound) {
        TreeSet<Integer> all = new TreeSet<>();
        for (int n = 0; n < bound; n++) {
            all.add(n);
        }
        return all;
    }

    private void setup(Deque<Runnable> acts) throws Wrong {
        Tokens t = new Tokens();
        World w = new World();
        Map<Integer, Integer> strengths = new HashMap<>();
        t.take("terms");
        w.tolerance = t.number(0, 999);
        w.limit = t.number(1, 9);
        w.calm = t.number(1, 9);
        t.take(";");
        while (!t.look().isEmpty()) {
            if (t.look().equals("buoy") && w.buoys.size() == 10) {
                throw t.wrong(4);
            }
            if (t.takeIf("buoy")) {
                Buoy b = new Buoy();
                int last = w.buoys.isEmpty() ? -1 : w.buoys.get(w.buoys.size() - 1).home;
                b.home = t.number(0, 9999, below(last + 1));
                b.vote = t.number(1, 9);
                b.hold = t.number(0, 99);
                b.offset = t.look().equals("-") || t.isNumber() ? t.signed(99) : 0;
                w.buoys.add(b);
            } else if (t.takeIf("rope")) {
                int k = t.number(0, w.buoys.size() - 2);
                strengths.put(k, t.number(1, 99));
            } else if (t.takeIf("stock")) {
                w.stock = t.number(0, 99999);
            } else {
                throw t.wrong(1);
            }
            t.take(";");
        }
        if (w.buoys.size() < 2) {
            throw t.wrong(5);
        }
        for (int k = 0; k + 1 < w.buoys.size(); k++) {
            Rope r = new Rope();
            r.strength = strengths.getOrDefault(k, 10);
            w.ropes.add(r);
        }
        w.came = w.stock;
        acts.add(() -> {
            now = w;
            undos.clear();
        });
    }

    private static final class Stop extends RuntimeException {
        private static final long serialVersionUID = 1;
    }

    private static void need(int answer) {
        if (answer < 0) {
            throw new Stop();
        }
    }

    private void script(Deque<Runnable> acts) throws Wrong {
        Tokens t = new Tokens();
        int most = now.buoys.size() - 1;
        while (!t.look().isEmpty()) {
            if (!t.look().matches("hour|storm|remake|plan|haul|stock")) {
                throw t.wrong(1);
            }
            if (acts.size() == 40) {
                throw t.wrong(4);
            }
            if (t.takeIf("hour")) {
                Map<Integer, Integer> told = new java.util.LinkedHashMap<>();
                while (t.isNumber()) {
                    int b = t.number(0, most, new TreeSet<>(told.keySet()));
                    told.put(b, t.signed(9999));
                }
                acts.add(() -> {
                    told.forEach(this::report);
                    endHour();
                });
            } else if (t.takeIf("storm")) {
                int force = t.number(1, 99);
                int first = t.number(0, most);
                int last = t.number(0, most, below(first));
                acts.add(() -> storm(force, first, last));
            } else if (t.takeIf("remake")) {
                int k = t.number(0, most - 1);
                acts.add(() -> need(remake(k)));
            } else if (t.takeIf("plan")) {
                int force = t.number(1, 99);
                acts.add(() -> need(remakeBy(force)));
            } else if (t.takeIf("haul")) {
                int b = t.number(0, most);
                acts.add(() -> need(haul(b)));
            } else if (t.takeIf("stock")) {
                int n = t.number(1, 9999);
                acts.add(() -> need(addStock(n)));
            }
            t.take(";");
        }
    }

    int load() {
        Deque<Runnable> acts = new ArrayDeque<>();
        if (!attempt(acts, true)) {
            return -1;
        }
        acts.forEach(Runnable::run);
        return now.buoys.size();
    }

    int play() {
        Deque<Runnable> acts = new ArrayDeque<>();
        if (!attempt(acts, false)) {
            return -1;
        }
        int done = 0;
        try {
            for (Runnable act : acts) {
                act.run();
                done++;
            }
        } catch (Stop s) {
            return done;
        }
        return done;
    }

    // ---- what there is

    private Buoy at(int buoy) {
        if (buoy < 0 || buoy >= now.buoys.size()) {
            throw new IndexOutOfBoundsException();
        }
        return now.buoys.get(buoy);
    }

    private Rope ropeAt(int rope) {
        if (rope < 0 || rope >= now.ropes.size()) {
            throw new IndexOutOfBoundsException();
        }
        return now.ropes.get(rope);
    }

    private Past kept(int hour) {
        if (!now.hours.containsKey(hour)) {
            throw new IndexOutOfBoundsException();
        }
        return now.hours.get(hour);
    }

    private static void demand(boolean isFine) {
        if (!isFine) {
            throw new IllegalArgumentException();
        }
    }

    private static int in(int what, int... all) {
        demand(what >= 0 && what < all.length);
        return all[what];
    }

    private static int set(Iterable<Integer> members) {
        int sum = 0;
        for (int m : members) {
            sum += 1 << m;
        }
        return sum;
    }

    int size(int what) {
        World w = now;
        int levels = (int) w.hours.values().stream().filter(p -> p.level != null).count();
        int broken = (int) w.ropes.stream().filter(r -> r.broken).count();
        return in(what, w.buoys.size(), w.ended, w.hours.size(), (int) w.count(Trust.TRUSTED),
                (int) w.count(Trust.SUSPECT), (int) w.count(Trust.DRAGGED), broken, w.stock, w.tolerance, w.limit,
                w.calm, w.storms, undos.size(), levels, w.retold, w.came, w.used);
    }

    int buoy(int buoy, int what) {
        Buoy b = at(buoy);
        return in(what, b.home, b.vote, b.hold, b.offset, b.trust.ordinal(), b.strikes, b.agreed, b.since,
                now.reports.containsKey(buoy) ? 1 : 0, now.reports.getOrDefault(buoy, 0));
    }

    int rope(int rope, int what) {
        Rope r = ropeAt(rope);
        return in(what, now.length(rope), r.strength, r.wear, r.broken ? 1 : 0);
    }

    int account(int what) {
        return in(what, accounts);
    }

    // ---- kept hours

    int hour(int hour, int what) {
        Past p = kept(hour);
        return in(what, set(p.voters), set(p.supporters), p.level != null ? 1 : 0, p.values.size(), set(p.out));
    }

    private static int some(Integer number) {
        if (number == null) {
            throw new NoSuchElementException();
        }
        return number;
    }

    int level(int hour) {
        return some(kept(hour).level);
    }

    int value(int hour, int buoy) {
        Past p = kept(hour);
        at(buoy);
        return some(p.values.get(buoy));
    }

    int why(int hour, int buoy) {
        Past p = kept(hour);
        at(buoy);
        if (!p.values.containsKey(buoy)) {
            return 1;
        }
        if (p.trusts.get(buoy) != Trust.TRUSTED) {
            return p.trusts.get(buoy) == Trust.SUSPECT ? 2 : 3;
        }
        if (p.out.contains(buoy)) {
            return 5;
        }
        return p.level == null ? 6 : p.supporters.contains(buoy) ? 0 : 4;
    }

    int tide(int hour) {
        int level = some(kept(hour).level);
        for (Past p : now.hours.headMap(hour, false).descendingMap().values()) {
            if (p.level != null) {
                return Integer.signum(level - p.level);
            }
        }
        throw new NoSuchElementException();
    }

    int extreme(boolean isLeast) {
        int best = -1;
        for (int h : now.hours.descendingKeySet()) {
            Integer level = now.hours.get(h).level;
            if (level != null && (best < 0 || (isLeast ? level <= level(best) : level >= level(best)))) {
                best = h;
            }
        }
        return best;
    }

    double meanLevel() {
        double sum = 0;
        double n = 0;
        for (Past p : now.hours.values()) {
            if (p.level != null) {
                sum += p.level;
                n++;
            }
        }
        return n == 0 ? 0.0 : sum / n;
    }

    float agreement(int hour) {
        Past p = kept(hour);
        float voters = 0;
        float supporters = 0;
        for (int v : p.voters) {
            voters += now.buoys.get(v).vote;
            supporters += p.supporters.contains(v) ? now.buoys.get(v).vote : 0;
        }
        return voters == 0 ? 0.0f : supporters / voters;
    }

    int levelNow() {
        return some(now.running().level);
    }

    int levelWithout(int hour, int buoys) {
        Past p = kept(hour).copy();
        p.voters.removeIf(v -> (buoys & 1 << v) != 0);
        now.tell(p.voters, p.values, p);
        return some(p.level);
    }

    int needed(int hour) {
        TreeSet<Integer> found = new TreeSet<>();
        for (int v : kept(hour).voters) {
            try {
                levelWithout(hour, 1 << v);
            } catch (NoSuchElementException e) {
                found.add(v);
            }
        }
        return set(found);
    }

    int segments() {
        return now.segments().size();
    }

    int segmentOf(int buoy) {
        at(buoy);
        return set(now.segments().stream().filter(s -> s.contains(buoy)).findFirst().get());
    }

    int weakest() {
        int best = -1;
        for (int k = 0; k < now.ropes.size(); k++) {
            Rope r = now.ropes.get(k);
            if (!r.broken && (best < 0 || r.strength - r.wear < now.ropes.get(best).strength - now.ropes.get(best).wear)) {
                best = k;
            }
        }
        return best;
    }

    private void checkStorm(int force, int first, int last) {
        at(first);
        at(last);
        demand(force >= 1 && force <= 99 && last >= first);
    }

    private static void checkForce(int force) {
        demand(force >= 1 && force <= 99);
    }

    int wouldBreak(int force, int first, int last) {
        checkStorm(force, first, last);
        World w = now.copy();
        w.storm(force, first, last);
        TreeSet<Integer> found = new TreeSet<>();
        for (int k = 0; k < w.ropes.size(); k++) {
            if (w.ropes.get(k).broken && !now.ropes.get(k).broken) {
                found.add(k);
            }
        }
        return set(found);
    }

    int wouldDrift(int force, int first, int last) {
        checkStorm(force, first, last);
        return now.copy().storm(force, first, last);
    }

    int leastStorm() {
        for (int force = 1; force <= 99; force++) {
            if (wouldDrift(force, 0, now.buoys.size() - 1) != 0) {
                return force;
            }
        }
        return -1;
    }

    int lacks(int force) {
        checkForce(force);
        int sum = 0;
        for (List<Integer> s : now.segments()) {
            int lack = force * s.size() - now.holds(s);
            sum += lack > 0 ? lack : 0;
        }
        return sum;
    }

    int plan(int force) {
        checkForce(force);
        TreeSet<int[]> plans = now.plans(force);
        return plans.isEmpty() ? -1 : plans.first()[0];
    }

    int planLength(int force) {
        checkForce(force);
        TreeSet<int[]> plans = now.plans(force);
        return plans.isEmpty() ? -1 : plans.first()[1];
    }

    // ---- acts

    private void act() {
        undos.addLast(now);
        if (undos.size() > 8) {
            undos.removeFirst();
        }
        now = now.copy();
        accounts[0]++;
    }

    private int refuse(int reason) {
        accounts[reason]++;
        return -reason;
    }

    int report(int buoy, int report) {
        at(buoy);
        demand(report >= -9999 && report <= 9999);
        act();
        now.reports.put(buoy, report);
        return now.reports.size();
    }

    int endHour() {
        act();
        return now.endHour();
    }

    int storm(int force, int first, int last) {
        checkStorm(force, first, last);
        act();
        return now.storm(force, first, last);
    }

    int remake(int rope) {
        Rope r = ropeAt(rope);
        if (!r.broken && r.wear == 0) {
            return refuse(1);
        }
        if (now.length(rope) > now.stock) {
            return refuse(2);
        }
        act();
        now.renew(rope);
        return now.stock;
    }

    int remakeBy(int force) {
        int plan = plan(force);
        if (plan < 0) {
            return refuse(3);
        }
        act();
        for (int k = 0; k < now.ropes.size(); k++) {
            if ((plan & 1 << k) != 0) {
                now.renew(k);
            }
        }
        return Integer.bitCount(plan);
    }

    int haul(int buoy) {
        if (at(buoy).trust != Trust.DRAGGED) {
            return refuse(1);
        }
        act();
        Buoy b = at(buoy);
        b.trust = Trust.SUSPECT;
        b.strikes = 0;
        b.agreed = 0;
        b.since = -1;
        return (int) now.count(Trust.DRAGGED);
    }

    int addStock(int ropes) {
        demand(ropes >= 1 && ropes <= 9999);
        if (now.stock + ropes > 99999) {
            return refuse(4);
        }
        act();
        now.came += ropes;
        return now.stock += ropes;
    }

    int setOffset(int buoy, int offset) {
        int before = at(buoy).offset;
        demand(offset >= -99 && offset <= 99);
        act();
        at(buoy).offset = offset;
        return before + 99;
    }

    int setHold(int buoy, int hold) {
        int before = at(buoy).hold;
        demand(hold >= 0 && hold <= 99);
        act();
        at(buoy).hold = hold;
        return before;
    }

    int setTerms(int tolerance, int limit, int calm) {
        demand(tolerance >= 0 && tolerance <= 999 && limit >= 1 && limit <= 9 && calm >= 1 && calm <= 9);
        int before = now.tolerance;
        act();
        now.tolerance = tolerance;
        now.limit = limit;
        now.calm = calm;
        return before;
    }

    // ---- output, undo, saved states

    int writeString() {
        StringBuilder s = new StringBuilder();
        for (int b = 0; b < now.buoys.size(); b++) {
            s.append(b == 0 ? "" : now.ropes.get(b - 1).broken ? " " : "-");
            s.append(b).append(now.buoys.get(b).trust.name().charAt(0));
        }
        output = s.toString();
        return output.length();
    }

    int writeHours() {
        List<String> parts = new ArrayList<>();
        now.hours.forEach((h, p) -> parts.add(h + (p.level == null ? "?" : "=" + p.level)));
        output = String.join(" ", parts);
        return output.length();
    }

    int output(int index) {
        return output.charAt(index);
    }

    int undo() {
        if (undos.isEmpty()) {
            throw new IllegalStateException();
        }
        now = undos.removeLast();
        return undos.size();
    }

    int save(int slot) {
        if (slot != 0 && slot != 1) {
            throw new IndexOutOfBoundsException();
        }
        saved[slot] = now.copy();
        return now.ended;
    }

    int restore(int slot) {
        if (slot != 0 && slot != 1) {
            throw new IndexOutOfBoundsException();
        }
        if (saved[slot] == null) {
            throw new IllegalStateException();
        }
        now = saved[slot].copy();
        undos.clear();
        return now.buoys.size();
    }
}
