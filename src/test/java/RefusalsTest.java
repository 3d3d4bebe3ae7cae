import java.util.ArrayList;
import java.util.Arrays;
import java.util.List;

/**
 * Every call with every argument just outside of what may be, on an empty, a small and a full book: the first
 * refusal that the document names is answered, and every answer afterwards is the one of a book that was never
 * asked. No book is used for more than 512 calls.
 */
public final class RefusalsTest {
    private static final int LOW = Integer.MIN_VALUE;
    private static final int HIGH = Integer.MAX_VALUE;
    private static final int MOST_CALLS = 512;
    private static final String[] NAMES = {
        "child", "change", "leader", "paper", "lose", "task", "badge", "sign", "strike", "of", "done", "held", "lacks",
        "badges", "site", "wish", "free", "ratio", "plan", "planned", "many", "keep", "back",
    };
    private static final int CHILD = 0;
    private static final int CHANGE = 1;
    private static final int LEADER = 2;
    private static final int PAPER = 3;
    private static final int LOSE = 4;
    private static final int TASK = 5;
    private static final int BADGE = 6;
    private static final int SIGN = 7;
    private static final int STRIKE = 8;
    private static final int OF = 9;
    private static final int DONE = 10;
    private static final int HELD = 11;
    private static final int LACKS = 12;
    private static final int BADGES = 13;
    private static final int SITE = 14;
    private static final int WISH = 15;
    private static final int FREE = 16;
    private static final int RATIO = 17;
    private static final int PLAN = 18;
    private static final int PLANNED = 19;
    private static final int MANY = 20;
    private static final int KEEP = 21;
    private static final int BACK = 22;
    private static int wrong = 0;
    private static int asked = 0;

    private static int[] call(int... row) {
        return row;
    }

    /** Carries out a call: its number, then its arguments. */
    private static int on(CampBook x, int[] a) {
        switch (a[0]) {
            case CHILD: return x.child(a[1], a[2]);
            case CHANGE: return x.change(a[1], a[2], a[3]);
            case LEADER: return x.leader();
            case PAPER: return x.paper(a[1], a[2], a[3], a[4]);
            case LOSE: return x.lose(a[1], a[2]);
            case TASK: return x.task(a[1], a[2]);
            case BADGE: return x.badge(a[1], a[2], a[3], a[4], a[5]);
            case SIGN: return x.sign(a[1], a[2], a[3], a[4]);
            case STRIKE: return x.strike(a[1]);
            case OF: return x.of(a[1], a[2]);
            case DONE: return x.done(a[1], a[2]);
            case HELD: return x.held(a[1], a[2]);
            case LACKS: return x.lacks(a[1], a[2], a[3]);
            case BADGES: return x.badges(a[1], a[2]);
            case SITE: return x.site(a[1], a[2] == 1);
            case WISH: return x.wish(a[1], a[2], a[3], a[4]);
            case FREE: return x.free(a[1], a[2]);
            case RATIO: return x.ratio(a[1]);
            case PLAN: return x.plan(a[1]);
            case PLANNED: return x.planned(a[1]);
            case MANY: return x.many(a[1]);
            case KEEP: return x.keep();
            default: return x.back();
        }
    }

    private static String text(int[] call) {
        return NAMES[call[0]] + Arrays.toString(Arrays.copyOfRange(call, 1, call.length));
    }

    /** A book by the calls that make it, how many of each kind it has then, and what it answers to all questions. */
    private static final class State {
        final String name;
        final List<int[]> calls = new ArrayList<>();
        int children;
        int leaders;
        int tasks;
        int badges;
        int signatures;
        List<int[]> answers;

        State(String name) {
            this.name = name;
        }

        void with(int... call) {
            calls.add(call);
        }

        CampBook make() {
            CampBook x = new CampBook();
            for (int[] call : calls) {
                on(x, call);
            }
            return x;
        }

        void count(int children, int leaders, int tasks, int badges, int signatures) {
            this.children = children;
            this.leaders = leaders;
            this.tasks = tasks;
            this.badges = badges;
            this.signatures = signatures;
            answers = answersAfter(null);
        }

        List<int[]> answersAfter(int[] refused) {
            List<int[]> all = new ArrayList<>();
            for (List<int[]> group : GROUPS) {
                if (calls.size() + 1 + group.size() > MOST_CALLS) {
                    throw new IllegalStateException(name + " with " + text(group.get(0)) + " takes too many calls");
                }
                CampBook x = make();
                if (refused != null) {
                    on(x, refused);
                }
                int[] row = new int[group.size()];
                for (int i = 0; i < row.length; i++) {
                    row[i] = on(x, group.get(i));
                }
                all.add(row);
            }
            return all;
        }
    }

    /** Questions in groups; each group is asked of a book of its own, so that it may change what it reads. */
    private static final List<List<int[]>> GROUPS = groups();

    private static List<List<int[]>> groups() {
        List<List<int[]>> groups = new ArrayList<>();
        for (List<int[]> group : List.of(plain(), rows(), marks(0), marks(40), days(), lacks(0), lacks(5), growth())) {
            groups.add(group);
            List<int[]> ofKept = new ArrayList<>();
            ofKept.add(call(BACK));
            ofKept.addAll(group);
            groups.add(ofKept);
        }
        return groups;
    }

    private static List<int[]> plain() {
        List<int[]> list = new ArrayList<>();
        for (int what = 0; what < 12; what++) {
            list.add(call(MANY, what));
        }
        for (int what = 0; what < 7; what++) {
            list.add(call(PLANNED, what));
        }
        for (int patrol = 0; patrol < 4; patrol++) {
            list.add(call(PLAN, patrol));
        }
        for (int child = 0; child < 10; child++) {
            for (int day : new int[] {0, 9, 10, 11, 20, 500, 998, 999}) {
                list.add(call(BADGES, child, day));
            }
        }
        return list;
    }

    /** What is told only by the call that changes it. */
    private static List<int[]> rows() {
        List<int[]> list = new ArrayList<>();
        list.add(call(RATIO, 1));
        for (int child = 0; child < 10; child++) {
            list.add(call(CHANGE, child, 0, 6));
            list.add(call(CHANGE, child, 1, 0));
        }
        for (int i = 0; i < 20; i++) {
            list.add(call(LOSE, i / 4, i % 4));
        }
        for (int leader = 0; leader < 5; leader++) {
            list.add(call(FREE, leader, 0));
        }
        for (int i = 0; i < 60; i++) {
            list.add(call(WISH, i / 15, i / 3 % 5, i % 3, 0));
        }
        for (int signature = 0; signature < 80; signature++) {
            list.add(call(STRIKE, signature));
        }
        return list;
    }

    private static List<int[]> marks(int from) {
        List<int[]> list = new ArrayList<>();
        for (int signature = from; signature < from + 40; signature++) {
            for (int what = 0; what < 6; what++) {
                list.add(call(OF, signature, what));
            }
        }
        return list;
    }

    private static List<int[]> days() {
        List<int[]> list = new ArrayList<>();
        for (int child = 0; child < 10; child++) {
            for (int task = 0; task < 10; task++) {
                list.add(call(DONE, child, task));
            }
            for (int badge = 0; badge < 8; badge++) {
                list.add(call(HELD, child, badge));
            }
        }
        return list;
    }

    private static List<int[]> lacks(int from) {
        List<int[]> list = new ArrayList<>();
        for (int child = from; child < from + 5; child++) {
            for (int badge = 0; badge < 8; badge++) {
                for (int what = 0; what < 4; what++) {
                    list.add(call(LACKS, child, badge, what));
                }
            }
        }
        return list;
    }

    /** Fills the book up, so that what a refused call left behind the last number would be met. */
    private static List<int[]> growth() {
        List<int[]> list = new ArrayList<>();
        for (int i = 0; i < 10; i++) {
            list.add(call(CHILD, 7, 1));
            list.add(call(LEADER));
            list.add(call(TASK, i % 4, -1));
            list.add(call(BADGE, 1 << i, 0, 0, 6, -1));
            list.add(call(SITE, 4, 0));
            list.add(call(FREE, i, 31));
        }
        for (int i = 0; i < 80; i++) {
            // Days around the ends of the papers that the states give.
            int[] days = {0, 9, 10, 20, 21, 999};
            list.add(call(SIGN, i % 10, i / 6 % 10, i % 5, days[i % 6]));
        }
        for (int signature = 0; signature < 80; signature++) {
            list.add(call(OF, signature, 5));
        }
        for (int i = 0; i < 20; i++) {
            list.add(call(LOSE, i / 4, i % 4));
        }
        for (int patrol = 0; patrol < 4; patrol++) {
            list.add(call(PLAN, patrol));
        }
        return list;
    }

    private static State empty() {
        State s = new State("empty");
        s.count(0, 0, 0, 0, 0);
        return s;
    }

    private static State small() {
        State s = new State("small");
        s.with(CHILD, 8, 0);
        s.with(CHILD, 12, 3);
        s.with(LEADER);
        s.with(LEADER);
        s.with(PAPER, 0, 0, 10, 20);
        s.with(PAPER, 0, 3, 0, 999);
        s.with(PAPER, 1, 1, 9, 9);
        s.with(TASK, 0, -1);
        s.with(TASK, 1, 0);
        s.with(BADGE, 1, 0, 0, 8, -1);
        s.with(SIGN, 0, 0, 0, 10);
        s.with(SIGN, 1, 0, 0, 20);
        s.with(SITE, 1, 1);
        s.with(WISH, 0, 0, 0, 5);
        s.with(WISH, 3, 1, 0, 4);
        s.with(WISH, 3, 3, 2, 9);
        s.with(FREE, 0, 31);
        s.with(RATIO, 2);
        s.with(KEEP);
        s.with(TASK, 3, 0);
        s.with(BADGE, 1, 6, 1, 6, 0);
        s.with(SIGN, 0, 2, 0, 500);
        s.with(SIGN, 0, 0, 0, 11);
        s.with(SIGN, 0, 1, 1, 9);
        s.with(STRIKE, 3);
        s.with(LOSE, 1, 1);
        s.with(WISH, 3, 2, 0, 6);
        s.with(FREE, 1, 16);
        s.with(CHANGE, 1, 0, 13);
        s.count(2, 2, 3, 2, 5);
        return s;
    }

    private static State full() {
        State s = new State("full");
        for (int i = 0; i < 10; i++) {
            s.with(CHILD, 6 + i, i % 4);
            s.with(TASK, i % 4, i % 3 == 0 ? -1 : i - 1);
        }
        for (int i = 0; i < 20; i++) {
            s.with(i % 4 == 0 ? new int[] {LEADER} : new int[] {MANY, 0});
            s.with(PAPER, i / 4, i % 4, i / 4 * 2, 990 + i / 4);
        }
        for (int i = 0; i < 8; i++) {
            s.with(BADGE, i == 7 ? 512 : 1 << i, 1023, i, 6 + i, i - 1);
        }
        for (int i = 0; i < 60; i++) {
            s.with(WISH, i / 15, i / 3 % 5, i % 3, (i * 7 + 3) % 10);
        }
        for (int i = 0; i < 80; i++) {
            s.with(SIGN, i % 40 == 39 ? 9 : 4, i / 4 % 10, i % 5, 100 + i / 4 % 10 * 10);
        }
        for (int i = 0; i < 3; i++) {
            s.with(SITE, 3 + i, i % 2);
        }
        for (int i = 0; i < 5; i++) {
            s.with(FREE, i, 31 - (1 << i));
        }
        s.with(RATIO, 1);
        s.with(KEEP);
        s.with(STRIKE, 79);
        s.with(LOSE, 4, 3);
        s.with(CHANGE, 0, 1, 1);
        s.with(WISH, 2, 2, 2, 0);
        s.count(10, 5, 10, 8, 80);
        return s;
    }

    private static void due(State state, int[] call, int want) {
        asked++;
        int got = on(state.make(), call);
        if (got != want) {
            wrong++;
            System.out.println(state.name + " book: " + text(call) + " answered " + got + ", due is " + want);
        }
        List<int[]> now = state.answersAfter(call);
        for (int g = 0; g < now.size(); g++) {
            compare(state, call, g, now.get(g));
        }
    }

    private static void compare(State state, int[] call, int g, int[] row) {
        for (int i = 0; i < row.length; i++) {
            int was = state.answers.get(g)[i];
            if (row[i] != was) {
                wrong++;
                System.out.println(state.name + " book: after " + text(call) + " the call "
                    + text(GROUPS.get(g).get(i)) + " answered " + row[i] + ", as before is " + was);
                return;
            }
        }
    }

    /** The arguments' least and greatest, in pairs; a greatest below the least: there is none that may be. */
    private static void outside(State state, int call, int... ranges) {
        int n = ranges.length / 2;
        int[] least = new int[n + 1];
        int[] greatest = new int[n + 1];
        least[0] = call;
        greatest[0] = call;
        for (int i = 0; i < n; i++) {
            least[i + 1] = ranges[2 * i];
            greatest[i + 1] = Math.max(ranges[2 * i], ranges[2 * i + 1]);
        }
        for (int i = 0; i < n; i++) {
            for (int v : new int[] {LOW, ranges[2 * i] - 1, ranges[2 * i + 1] + 1, HIGH}) {
                refuse(state, least, i + 1, v);
                refuse(state, greatest, i + 1, v);
            }
        }
    }

    private static void refuse(State state, int[] others, int at, int v) {
        int[] call = others.clone();
        call[at] = v;
        due(state, call, CampBook.NUMBER);
    }

    private static void numbers(State s) {
        outside(s, CHILD, 6, 18, 0, 3);
        outside(s, CHANGE, 0, s.children - 1, 0, 0, 6, 18);
        outside(s, CHANGE, 0, s.children - 1, 1, 1, 0, 3);
        outside(s, PAPER, 0, s.leaders - 1, 0, 3, 0, 999, 0, 999);
        outside(s, LOSE, 0, s.leaders - 1, 0, 3);
        outside(s, TASK, 0, 3, -1, s.tasks - 1);
        outside(s, BADGE, 0, 1023, 0, 1023, 0, 10, 6, 18, -1, s.badges - 1);
        outside(s, SIGN, 0, s.children - 1, 0, s.tasks - 1, 0, s.leaders - 1, 0, 999);
        outside(s, STRIKE, 0, s.signatures - 1);
        outside(s, OF, 0, s.signatures - 1, 0, 5);
        outside(s, DONE, 0, s.children - 1, 0, s.tasks - 1);
        outside(s, HELD, 0, s.children - 1, 0, s.badges - 1);
        outside(s, LACKS, 0, s.children - 1, 0, s.badges - 1, 0, 3);
        outside(s, BADGES, 0, s.children - 1, 0, 999);
        due(s, call(SITE, 0, 0), CampBook.NUMBER);
        due(s, call(SITE, 11, 1), CampBook.NUMBER);
        due(s, call(SITE, LOW, 1), CampBook.NUMBER);
        due(s, call(SITE, HIGH, 0), CampBook.NUMBER);
        outside(s, WISH, 0, 3, 0, 4, 0, 2, 0, 9);
        outside(s, FREE, 0, s.leaders - 1, 0, 31);
        outside(s, RATIO, 1, 10);
        outside(s, PLAN, 0, 3);
        outside(s, PLANNED, 0, 6);
        outside(s, MANY, 0, 11);
        for (int[] days : new int[][] {{1, 0}, {999, 0}, {999, 998}, {11, 10}, {HIGH, LOW}}) {
            due(s, call(PAPER, 0, 0, days[0], days[1]), CampBook.NUMBER);
        }
    }

    private static void ofSmall(State s) {
        due(s, call(LOSE, 1, 1), CampBook.NONE);
        due(s, call(LOSE, 1, 0), CampBook.NONE);
        due(s, call(DONE, 1, 1), CampBook.NONE);
        due(s, call(HELD, 1, 1), CampBook.NONE);
        due(s, call(PLAN, 1), CampBook.NONE);
        due(s, call(STRIKE, 3), CampBook.TWICE);
    }

    private static void ofFull(State s) {
        due(s, call(CHILD, 6, 0), CampBook.FULL);
        due(s, call(CHILD, 18, 3), CampBook.FULL);
        due(s, call(LEADER), CampBook.FULL);
        due(s, call(TASK, 0, -1), CampBook.FULL);
        due(s, call(TASK, 3, 9), CampBook.FULL);
        due(s, call(BADGE, 0, 0, 0, 6, -1), CampBook.FULL);
        due(s, call(BADGE, 1023, 1023, 10, 18, 7), CampBook.FULL);
        due(s, call(SIGN, 0, 0, 0, 0), CampBook.FULL);
        due(s, call(SIGN, 9, 9, 4, 999), CampBook.FULL);
        due(s, call(SITE, 1, 0), CampBook.FULL);
        due(s, call(SITE, 10, 1), CampBook.FULL);
        due(s, call(STRIKE, 79), CampBook.TWICE);
        due(s, call(LOSE, 4, 3), CampBook.NONE);
    }

    public static void main(String[] args) {
        State empty = empty();
        State small = small();
        State full = full();
        numbers(empty);
        numbers(small);
        numbers(full);
        due(empty, call(BACK), CampBook.NONE);
        for (int patrol = 0; patrol < 4; patrol++) {
            due(empty, call(PLAN, patrol), CampBook.NONE);
        }
        ofSmall(small);
        ofFull(full);
        System.out.println(wrong == 0 ? asked + " refusals are as due" : wrong + " refusals are not as due");
        if (wrong != 0) {
            System.exit(1);
        }
    }
}
