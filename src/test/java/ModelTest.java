import java.util.ArrayList;
import java.util.List;
import java.util.Random;

/** Random runs of 512 calls from fixed seeds, each answer against a model that follows the document word by word. */
public final class ModelTest {
    private static final int RUNS = 400;
    private static final int CALLS = 512;

    /** The model: lists of rows, everything worked out anew and without short cuts. */
    private static final class Model {
        List<int[]> children = new ArrayList<>();
        List<int[][]> leaders = new ArrayList<>();
        List<int[]> tasks = new ArrayList<>();
        List<int[]> signatures = new ArrayList<>();
        List<int[]> badges = new ArrayList<>();
        List<int[]> sites = new ArrayList<>();
        int[] wishes = new int[60];
        int[] free = new int[5];
        int ratio = 5;
        Model kept = null;

        Model copy() {
            Model m = new Model();
            children.forEach(row -> m.children.add(row.clone()));
            tasks.forEach(row -> m.tasks.add(row.clone()));
            signatures.forEach(row -> m.signatures.add(row.clone()));
            badges.forEach(row -> m.badges.add(row.clone()));
            sites.forEach(row -> m.sites.add(row.clone()));
            for (int[][] papers : leaders) {
                int[][] same = new int[4][];
                for (int s = 0; s < 4; s++) {
                    same[s] = papers[s] == null ? null : papers[s].clone();
                }
                m.leaders.add(same);
            }
            m.wishes = wishes.clone();
            m.free = free.clone();
            return m;
        }

        void take(Model m) {
            children = m.children;
            leaders = m.leaders;
            tasks = m.tasks;
            signatures = m.signatures;
            badges = m.badges;
            sites = m.sites;
            wishes = m.wishes;
            free = m.free;
        }

        static boolean in(int v, int from, int to) {
            return from <= v && v <= to;
        }

        static boolean at(int v, List<?> list) {
            return v >= 0 && v < list.size();
        }

        int add(List<int[]> list, int most, int... row) {
            if (list.size() == most) {
                return -2;
            }
            list.add(row);
            return list.size() - 1;
        }

        boolean counts(int s) {
            int[] g = signatures.get(s);
            int[] task = tasks.get(g[1]);
            int[] paper = leaders.get(g[2])[task[0]];
            if (g[4] == 1 || paper == null || !in(g[3], paper[0], paper[1])) {
                return false;
            }
            return task[1] < 0 || isDone(g[0], task[1], g[3]);
        }

        boolean isDone(int child, int task, int day) {
            for (int s = 0; s < signatures.size(); s++) {
                int[] g = signatures.get(s);
                if (g[0] == child && g[1] == task && g[3] <= day && counts(s)) {
                    return true;
                }
            }
            return false;
        }

        int doneDay(int child, int task) {
            int first = 1000;
            for (int s = 0; s < signatures.size(); s++) {
                int[] g = signatures.get(s);
                if (g[0] == child && g[1] == task && g[3] < first && counts(s)) {
                    first = g[3];
                }
            }
            return first;
        }

        int[] doneDays(int child) {
            int[] days = new int[10];
            for (int t = 0; t < 10; t++) {
                days[t] = t < tasks.size() ? doneDay(child, t) : 1000;
            }
            return days;
        }

        boolean isHeld(int child, int badge, int day, int[] days) {
            int[] b = badges.get(badge);
            int some = 0;
            for (int t = 0; t < 10; t++) {
                boolean done = days[t] <= day;
                if ((b[0] >> t) % 2 == 1 && !done) {
                    return false;
                }
                some += (b[1] >> t) % 2 == 1 && done ? 1 : 0;
            }
            return some >= b[2] && children.get(child)[0] >= b[3] && (b[4] < 0 || isHeld(child, b[4], day, days));
        }

        int heldDay(int child, int badge) {
            int[] days = doneDays(child);
            for (int day = 0; day < 1000; day++) {
                if (isHeld(child, badge, day, days)) {
                    return day;
                }
            }
            return -3;
        }

        int lacks(int child, int badge, int what) {
            int[] b = badges.get(badge);
            int[] days = doneDays(child);
            int all = 0;
            int some = 0;
            for (int t = 0; t < 10; t++) {
                all += (b[0] >> t) % 2 == 1 && days[t] > 999 ? 1 << t : 0;
                some += (b[1] >> t) % 2 == 1 && days[t] <= 999 ? 1 : 0;
            }
            switch (what) {
                case 0: return all;
                case 1: return Math.max(0, b[2] - some);
                case 2: return Math.max(0, b[3] - children.get(child)[0]);
                default: return b[4] >= 0 && heldDay(child, b[4]) < 0 ? 1 : 0;
            }
        }

        int badgesOn(int child, int day) {
            int[] days = doneDays(child);
            int n = 0;
            for (int b = 0; b < badges.size(); b++) {
                n += isHeld(child, b, day, days) ? 1 : 0;
            }
            return n;
        }

        int patrolSize(int patrol) {
            int n = 0;
            for (int[] child : children) {
                n += child[1] == patrol ? 1 : 0;
            }
            return n;
        }

        boolean isAllowed(int[] plan, int upTo, int[] size, int[] room) {
            int[] away = new int[5];
            for (int p = 0; p < upTo; p++) {
                int slot = plan[p];
                if (slot == 15) {
                    continue;
                }
                if (size[p] == 0 || slot % 3 >= sites.size() || size[p] > sites.get(slot % 3)[0]) {
                    return false;
                }
                away[slot / 3] += size[p];
                if (away[slot / 3] > room[slot / 3]) {
                    return false;
                }
                for (int q = 0; q < p; q++) {
                    boolean next = plan[q] != 15 && plan[q] % 3 == slot % 3 && Math.abs(plan[q] / 3 - slot / 3) == 1;
                    if (plan[q] == slot || (next && sites.get(slot % 3)[1] == 1)) {
                        return false;
                    }
                }
            }
            return true;
        }

        int[] score(int[] plan) {
            int worth = 0;
            int given = 0;
            for (int p = 0; p < 4; p++) {
                worth += plan[p] < 15 ? wishes[p * 15 + plan[p]] : 0;
                given += plan[p] < 15 ? 1 : 0;
            }
            return new int[] {-worth, given, plan[0], plan[1], plan[2], plan[3]};
        }

        static boolean isBefore(int[] a, int[] b) {
            for (int i = 0; i < a.length; i++) {
                if (a[i] != b[i]) {
                    return a[i] < b[i];
                }
            }
            return false;
        }

        int[] best;
        boolean bestKnown = false;

        void each(int[] plan, int p, int[] size, int[] room) {
            if (!isAllowed(plan, p, size, room)) {
                return;
            }
            if (p == 4) {
                int[] s = score(plan);
                best = best == null || isBefore(s, best) ? s : best;
                return;
            }
            for (int slot = 15; slot >= 0; slot--) {
                plan[p] = slot;
                each(plan, p + 1, size, room);
            }
        }

        int[] thePlan() {
            if (!bestKnown) {
                int[] size = new int[4];
                int[] room = new int[5];
                for (int p = 0; p < 4; p++) {
                    size[p] = patrolSize(p);
                }
                for (int w = 0; w < 5; w++) {
                    for (int l = 0; l < leaders.size(); l++) {
                        room[w] += (free[l] >> w) % 2 == 1 ? ratio : 0;
                    }
                }
                best = null;
                each(new int[4], 0, size, room);
                bestKnown = true;
            }
            return best;
        }

        int away(int weekend) {
            int n = 0;
            for (int p = 0; p < 4; p++) {
                int slot = thePlan()[2 + p];
                n += slot < 15 && slot / 3 == weekend ? patrolSize(p) : 0;
            }
            return n;
        }

        int many(int what) {
            int n = 0;
            switch (what) {
                case 0: return children.size();
                case 1: return leaders.size();
                case 2: return tasks.size();
                case 3: return signatures.size();
                case 4: return badges.size();
                case 5: return sites.size();
                case 6:
                    for (int s = 0; s < signatures.size(); s++) {
                        n += counts(s) ? 1 : 0;
                    }
                    return n;
                case 7:
                    for (int c = 0; c < children.size(); c++) {
                        n += badgesOn(c, 999);
                    }
                    return n;
                default: return in(what, 8, 11) ? patrolSize(what - 8) : -1;
            }
        }

        int people(int call, int[] a) {
            switch (call) {
                case 0:
                    return !in(a[0], 6, 18) || !in(a[1], 0, 3) ? -1 : add(children, 10, a[0], a[1]);
                case 1: {
                    boolean right = at(a[0], children) && in(a[1], 0, 1) && (a[1] == 0 ? in(a[2], 6, 18) : in(a[2], 0, 3));
                    return right ? put(children.get(a[0]), a[1], a[2]) : -1;
                }
                case 2:
                    if (leaders.size() == 5) {
                        return -2;
                    }
                    leaders.add(new int[4][]);
                    return leaders.size() - 1;
                case 3:
                    if (!at(a[0], leaders) || !in(a[1], 0, 3) || !in(a[2], 0, 999) || !in(a[3], 0, 999) || a[2] > a[3]) {
                        return -1;
                    }
                    leaders.get(a[0])[a[1]] = new int[] {a[2], a[3]};
                    return 1;
                case 4: {
                    if (!at(a[0], leaders) || !in(a[1], 0, 3)) {
                        return -1;
                    }
                    boolean had = leaders.get(a[0])[a[1]] != null;
                    leaders.get(a[0])[a[1]] = null;
                    return had ? 1 : -3;
                }
                case 5:
                    return !in(a[0], 0, 3) || !(a[1] == -1 || at(a[1], tasks)) ? -1 : add(tasks, 10, a[0], a[1]);
                default: {
                    boolean right = in(a[0], 0, 1023) && in(a[1], 0, 1023) && in(a[2], 0, 10) && in(a[3], 6, 18);
                    right &= a[4] == -1 || at(a[4], badges);
                    return right ? add(badges, 8, a[0], a[1], a[2], a[3], a[4]) : -1;
                }
            }
        }

        static int put(int[] row, int i, int v) {
            int was = row[i];
            row[i] = v;
            return was;
        }

        int signatures(int call, int[] a) {
            switch (call) {
                case 7: {
                    boolean right = at(a[0], children) && at(a[1], tasks) && at(a[2], leaders) && in(a[3], 0, 999);
                    return right ? add(signatures, 80, a[0], a[1], a[2], a[3], 0) : -1;
                }
                case 8:
                    return !at(a[0], signatures) ? -1 : put(signatures.get(a[0]), 4, 1) == 1 ? -4 : 1;
                case 9:
                    if (!at(a[0], signatures) || !in(a[1], 0, 5)) {
                        return -1;
                    }
                    return a[1] < 5 ? signatures.get(a[0])[a[1]] : counts(a[0]) ? 1 : 0;
                case 10: {
                    if (!at(a[0], children) || !at(a[1], tasks)) {
                        return -1;
                    }
                    int day = doneDay(a[0], a[1]);
                    return day > 999 ? -3 : day;
                }
                case 11:
                    return !at(a[0], children) || !at(a[1], badges) ? -1 : heldDay(a[0], a[1]);
                case 12:
                    return !at(a[0], children) || !at(a[1], badges) || !in(a[2], 0, 3) ? -1 : lacks(a[0], a[1], a[2]);
                default:
                    return !at(a[0], children) || !in(a[1], 0, 999) ? -1 : badgesOn(a[0], a[1]);
            }
        }

        int weekends(int call, int[] a) {
            switch (call) {
                case 14:
                    return !in(a[0], 1, 10) ? -1 : add(sites, 3, a[0], a[1] & 1);
                case 15: {
                    boolean right = in(a[0], 0, 3) && in(a[1], 0, 4) && in(a[2], 0, 2) && in(a[3], 0, 9);
                    return right ? put(wishes, a[0] * 15 + a[1] * 3 + a[2], a[3]) : -1;
                }
                case 16:
                    return !at(a[0], leaders) || !in(a[1], 0, 31) ? -1 : put(free, a[0], a[1]);
                case 17: {
                    int was = ratio;
                    ratio = in(a[0], 1, 10) ? a[0] : ratio;
                    return in(a[0], 1, 10) ? was : -1;
                }
                case 18:
                    return !in(a[0], 0, 3) ? -1 : thePlan()[2 + a[0]] == 15 ? -3 : thePlan()[2 + a[0]];
                case 19:
                    if (!in(a[0], 0, 6)) {
                        return -1;
                    }
                    return a[0] == 0 ? -thePlan()[0] : a[0] == 1 ? thePlan()[1] : away(a[0] - 2);
                case 20:
                    return many(a[0]);
                case 21:
                    kept = copy();
                    return 1;
                default:
                    if (kept == null) {
                        return -3;
                    }
                    take(kept.copy());
                    return 1;
            }
        }

        int answer(int call, int[] a) {
            if (call < 18 || call == 22) {
                bestKnown = false;
            }
            return call < 7 ? people(call, a) : call < 14 ? signatures(call, a) : weekends(call, a);
        }
    }

    private static final String[] NAMES = {
        "child", "change", "leader", "paper", "lose", "task", "badge", "sign", "strike", "of", "done", "held", "lacks",
        "badges", "site", "wish", "free", "ratio", "plan", "planned", "many", "keep", "back",
    };
    // How often each call comes, out of their sum.
    private static final int[] SHARES = {8, 6, 4, 14, 2, 6, 6, 40, 6, 10, 10, 14, 10, 6, 3, 36, 8, 3, 10, 8, 10, 1, 1};

    private static int ask(CampBook x, int call, int[] a) {
        switch (call) {
            case 0: return x.child(a[0], a[1]);
            case 1: return x.change(a[0], a[1], a[2]);
            case 2: return x.leader();
            case 3: return x.paper(a[0], a[1], a[2], a[3]);
            case 4: return x.lose(a[0], a[1]);
            case 5: return x.task(a[0], a[1]);
            case 6: return x.badge(a[0], a[1], a[2], a[3], a[4]);
            case 7: return x.sign(a[0], a[1], a[2], a[3]);
            case 8: return x.strike(a[0]);
            case 9: return x.of(a[0], a[1]);
            case 10: return x.done(a[0], a[1]);
            case 11: return x.held(a[0], a[1]);
            case 12: return x.lacks(a[0], a[1], a[2]);
            case 13: return x.badges(a[0], a[1]);
            case 14: return x.site(a[0], (a[1] & 1) == 1);
            case 15: return x.wish(a[0], a[1], a[2], a[3]);
            case 16: return x.free(a[0], a[1]);
            case 17: return x.ratio(a[0]);
            case 18: return x.plan(a[0]);
            case 19: return x.planned(a[0]);
            case 20: return x.many(a[0]);
            case 21: return x.keep();
            default: return x.back();
        }
    }

    // For each call, for each argument, the least and the greatest that may be; wrong ones come beside these.
    private static final int[][] RANGES = {
        {6, 18, 0, 3}, {0, 9, 0, 1, 0, 18}, {}, {0, 4, 0, 3, 0, 999, 0, 999}, {0, 4, 0, 3}, {0, 3, -1, 8},
        {0, 1023, 0, 1023, 0, 10, 6, 18, -1, 6}, {0, 9, 0, 9, 0, 4, 0, 999}, {0, 79}, {0, 79, 0, 5}, {0, 9, 0, 9},
        {0, 9, 0, 7}, {0, 9, 0, 7, 0, 3}, {0, 9, 0, 999}, {1, 10, 0, 1}, {0, 3, 0, 4, 0, 2, 0, 9}, {0, 4, 0, 31},
        {1, 10}, {0, 3}, {0, 6}, {0, 11}, {}, {},
    };

    private static int argument(Random random, int from, int to, Model m, int call, int i) {
        int kind = random.nextInt(60);
        if (kind == 0) {
            int[] odd = {from - 1, to + 1, Integer.MIN_VALUE, Integer.MAX_VALUE, -random.nextInt(2000), random.nextInt(2000)};
            return odd[random.nextInt(odd.length)];
        }
        if (to == 1023) {
            // Few bits, so that badges are held at times.
            int tasks = Math.max(1, m.tasks.size());
            return random.nextInt(8) == 0 ? random.nextInt(1024) : 1 << random.nextInt(tasks) | random.nextInt(1 << tasks) & random.nextInt(4);
        }
        int end = to;
        if (kind > 4) {
            end = call != 6 && to == 9 && i == 0 ? m.children.size() - 1 : end;
            end = to == 9 && i == 1 ? m.tasks.size() - 1 : end;
            end = to == 7 && i == 1 ? m.badges.size() - 1 : end;
            end = call != 15 && to == 4 && i != 1 ? m.leaders.size() - 1 : end;
            end = to == 79 ? m.signatures.size() - 1 : end;
        }
        return end < from ? from : from + random.nextInt(end - from + 1);
    }

    private static int[] arguments(Random random, Model m, int call) {
        int[] range = RANGES[call];
        int[] a = new int[5];
        for (int i = 0; i < range.length / 2; i++) {
            a[i] = argument(random, range[2 * i], range[2 * i + 1], m, call, i);
        }
        if (call == 3 && a[2] > a[3] && random.nextInt(10) > 0) {
            int from = a[3];
            a[3] = a[2];
            a[2] = from;
        }
        if (call == 3 && random.nextInt(2) == 0) {
            a[2] = Math.min(a[2], 100);
            a[3] = Math.max(a[3], 800);
        }
        if (call == 5 && random.nextInt(2) == 0) {
            a[1] = -1;
        }
        if (call == 7 && random.nextInt(2) == 0) {
            // Few children and few days, so that leaning tasks get done, often on the same day.
            a[0] = Math.min(a[0], 1);
            a[3] = Math.min(a[3], 300 + random.nextInt(5));
        }
        if (call >= 10 && call <= 13 && random.nextInt(2) == 0) {
            a[0] = Math.min(a[0], 1);
        }
        if (call == 6 && random.nextInt(3) > 0) {
            a[2] = Math.min(a[2], random.nextInt(3));
            a[3] = Math.min(a[3], 9);
        }
        return a;
    }

    private static int pick(Random random) {
        int sum = 0;
        for (int share : SHARES) {
            sum += share;
        }
        int at = random.nextInt(sum);
        int call = 0;
        while (at >= SHARES[call]) {
            at -= SHARES[call];
            call++;
        }
        return call;
    }

    private static final int[] SETUP = {0, 0, 2, 3, 3, 3, 3, 5, 5, 6, 6, 14, 16};
    private static final int[] SEEN = new int[NAMES.length];

    private static boolean run(int seed) {
        Random random = new Random(seed);
        CampBook x = new CampBook();
        Model m = new Model();
        for (int n = 0; n < CALLS; n++) {
            int call = n < SETUP.length ? SETUP[n] : pick(random);
            int[] a = arguments(random, m, call);
            int want = m.answer(call, a);
            int got = ask(x, call, a);
            SEEN[call] += want >= 0 ? 1 : 0;
            if (got != want) {
                System.out.println("seed " + seed + ", call " + n + ": " + NAMES[call] + " "
                    + java.util.Arrays.toString(a) + " answered " + got + ", due is " + want);
                return false;
            }
        }
        return true;
    }

    public static void main(String[] args) {
        int wrong = 0;
        for (int seed = 0; seed < RUNS; seed++) {
            wrong += run(seed) ? 0 : 1;
        }
        for (int call = 0; call < NAMES.length; call++) {
            if (SEEN[call] == 0) {
                System.out.println("never answered: " + NAMES[call]);
                wrong++;
            }
        }
        if (args.length > 0) {
            System.out.println(java.util.Arrays.toString(SEEN));
        }
        System.out.println(wrong == 0 ? "all runs are as due" : wrong + " runs are not as due");
        if (wrong != 0) {
            System.exit(1);
        }
    }
}
