/**
 * Each sentence of the document that names a boundary case, by its promise's number ("T" for Terms): the last
 * number that may be and the first that may not, on both sides; the empty book and the full one.
 */
public final class EdgesTest {
    private static final int LOW = Integer.MIN_VALUE;
    private static final int HIGH = Integer.MAX_VALUE;
    private static final int NUMBER = CampBook.NUMBER;
    private static final int FULL = CampBook.FULL;
    private static final int NONE = CampBook.NONE;
    private static final int TWICE = CampBook.TWICE;
    private static int wrong = 0;
    private static int asked = 0;

    private interface Maker {
        CampBook make();
    }

    private interface With {
        int on(CampBook x, int v);
    }

    private static void due(String sentence, int got, int want) {
        asked++;
        if (got != want) {
            wrong++;
            System.out.println(sentence + ": answered " + got + ", due is " + want);
        }
    }

    /** From the least to the greatest nothing is NUMBER, and all outside is; each on a book of its own. */
    private static void range(String sentence, int least, int greatest, Maker maker, With call) {
        for (int v = least; v <= greatest; v++) {
            due(sentence + " may be " + v, call.on(maker.make(), v) == NUMBER ? NUMBER : 0, 0);
        }
        int[] tried = {
            LOW, LOW + 1, -65536, -256, -2, -1, 0, least - 2, least - 1, greatest + 1, greatest + 2,
            least + 256, least + 65536, 1 << 30, HIGH - 1, HIGH,
        };
        for (int v : tried) {
            if (v < least || v > greatest) {
                due(sentence + " may not be " + v, call.on(maker.make(), v), NUMBER);
            }
        }
    }

    /** One child of 10 years in patrol 0, one leader with all papers for all days, one task of sort 0. */
    private static CampBook one() {
        CampBook x = new CampBook();
        x.child(10, 0);
        x.leader();
        papers(x, 0, 0, 999);
        x.task(0, -1);
        return x;
    }

    private static void papers(CampBook x, int leader, int from, int to) {
        for (int sort = 0; sort < 4; sort++) {
            x.paper(leader, sort, from, to);
        }
    }

    /** As one(), with ten tasks that lean on none. */
    private static CampBook tenTasks() {
        CampBook x = one();
        for (int task = 1; task < 10; task++) {
            x.task(task % 4, -1);
        }
        return x;
    }

    /** As many of each as there may be: 10, 5, 10, 80, 8, 3; all papers hold on all days. */
    private static CampBook fullBook() {
        CampBook x = new CampBook();
        for (int i = 0; i < 10; i++) {
            x.child(18, i % 4);
            x.task(i % 4, -1);
        }
        for (int leader = 0; leader < 5; leader++) {
            x.leader();
            papers(x, leader, 0, 999);
        }
        for (int badge = 0; badge < 8; badge++) {
            x.badge(0, 0, 0, 6, badge - 1);
        }
        for (int i = 0; i < 80; i++) {
            x.sign(i % 10, i / 8, i % 5, i);
        }
        for (int site = 0; site < 3; site++) {
            x.site(10, false);
        }
        return x;
    }

    /** Children by patrol, leaders who are free on all weekends, three sites of ten beds. */
    private static CampBook camp(int leaders, boolean wood, int... children) {
        CampBook x = new CampBook();
        for (int patrol = 0; patrol < children.length; patrol++) {
            for (int i = 0; i < children[patrol]; i++) {
                x.child(10, patrol);
            }
        }
        for (int leader = 0; leader < leaders; leader++) {
            x.leader();
            x.free(leader, 31);
        }
        for (int site = 0; site < 3; site++) {
            x.site(10, wood);
        }
        return x;
    }

    private static void plans(String sentence, CampBook x, int... slots) {
        for (int patrol = 0; patrol < slots.length; patrol++) {
            due(sentence + ", patrol " + patrol, x.plan(patrol), slots[patrol]);
        }
    }

    private static void manys(String sentence, CampBook x, int... want) {
        for (int what = 0; what < want.length; what++) {
            due(sentence + ", many " + what, x.many(what), want[what]);
        }
    }

    // ---- 1: a new object

    private static void newBook() {
        manys("1 nothing at first", new CampBook(), 0, 0, 0, 0, 0, 0, 0, 0, 0, 0, 0, 0);
        due("1 no child", new CampBook().change(0, 0, 6), NUMBER);
        due("1 no leader", new CampBook().free(0, 0), NUMBER);
        due("1 no leader for a paper", new CampBook().paper(0, 0, 0, 0), NUMBER);
        due("1 no leader to lose one", new CampBook().lose(0, 0), NUMBER);
        due("1 no task to lean on", new CampBook().task(0, 0), NUMBER);
        due("1 no badge to ask for", new CampBook().badge(0, 0, 0, 6, 0), NUMBER);
        due("1 nothing to sign", new CampBook().sign(0, 0, 0, 0), NUMBER);
        due("1 no signature to strike", new CampBook().strike(0), NUMBER);
        due("1 no signature to tell of", new CampBook().of(0, 0), NUMBER);
        due("1 nobody has done", new CampBook().done(0, 0), NUMBER);
        due("1 nobody holds", new CampBook().held(0, 0), NUMBER);
        due("1 nobody lacks", new CampBook().lacks(0, 0, 0), NUMBER);
        due("1 nobody has badges", new CampBook().badges(0, 0), NUMBER);
        due("1 nothing is kept", new CampBook().back(), NONE);
        due("T ratio is 5 at first", new CampBook().ratio(5), 5);
        CampBook x = new CampBook();
        plans("1 nothing is planned", x, NONE, NONE, NONE, NONE);
        for (int what = 0; what < 7; what++) {
            due("1 planned " + what, x.planned(what), 0);
        }
        for (int i = 0; i < 60; i++) {
            due("T wishes are 0 at first", x.wish(i / 15, i / 3 % 5, i % 3, 9), 0);
        }
        for (int i = 0; i < 60; i++) {
            due("17 each has a place of its own", x.wish(i / 15, i / 3 % 5, i % 3, i % 10), 9);
        }
        for (int i = 0; i < 60; i++) {
            due("17 each is what it was", x.wish(i / 15, i / 3 % 5, i % 3, 0), i % 10);
        }
    }

    private static void booksAreApart() {
        CampBook x = fullBook();
        CampBook y = new CampBook();
        manys("1 another book has nothing", y, 0, 0, 0, 0, 0, 0, 0, 0, 0, 0, 0, 0);
        x.keep();
        due("1 nothing is kept in another book", y.back(), NONE);
        x.ratio(1);
        due("1 another book's ratio", y.ratio(2), 5);
    }

    // ---- 2, 3: children

    private static void children() {
        range("2 age", 6, 18, CampBook::new, (x, v) -> x.child(v, 0));
        range("2 patrol", 0, 3, CampBook::new, (x, v) -> x.child(6, v));
        CampBook x = new CampBook();
        due("2 refused, so not counted", x.child(5, 0), NUMBER);
        for (int i = 0; i < 10; i++) {
            due("2 numbered from 0 as they come", x.child(6 + i, i % 4), i);
        }
        due("T 10 children at most", x.child(6, 0), FULL);
        due("2 FULL again", x.child(18, 3), FULL);
        due("2 NUMBER of age ahead of FULL", x.child(19, 0), NUMBER);
        due("2 NUMBER of patrol ahead of FULL", x.child(6, 4), NUMBER);
        manys("2 full", x, 10, 0, 0, 0, 0, 0, 0, 0, 3, 3, 2, 2);
        for (int i = 0; i < 10; i++) {
            due("2 its age", x.change(i, 0, 18), 6 + i);
            due("2 its patrol", x.change(i, 1, 3), i % 4);
        }
        manys("3 all in one patrol", x, 10, 0, 0, 0, 0, 0, 0, 0, 0, 0, 0, 10);
    }

    private static void changes() {
        range("3 child", 0, 0, EdgesTest::one, (x, v) -> x.change(v, 0, 6));
        range("3 child of ten", 0, 9, EdgesTest::fullBook, (x, v) -> x.change(v, 1, 0));
        range("3 what, v is right for both", 0, 0, EdgesTest::one, (x, v) -> x.change(0, v, 6));
        range("3 what, v is a patrol", 1, 1, EdgesTest::one, (x, v) -> x.change(0, v, 3));
        range("3 age", 6, 18, EdgesTest::one, (x, v) -> x.change(0, 0, v));
        range("3 patrol", 0, 3, EdgesTest::one, (x, v) -> x.change(0, 1, v));
        CampBook x = one();
        due("3 to what it is", x.change(0, 0, 10), 10);
        due("3 patrol to what it is", x.change(0, 1, 0), 0);
        due("3 to the least", x.change(0, 0, 6), 10);
        due("3 to the greatest", x.change(0, 0, 18), 6);
        due("3 the greatest", x.change(0, 0, 18), 18);
        due("3 the last patrol", x.change(0, 1, 3), 0);
        due("3 was the last patrol", x.change(0, 1, 3), 3);
        due("3 age and patrol are apart", x.change(0, 0, 7), 18);
    }

    // ---- 4, 5, 6: leaders and papers

    private static void leaders() {
        CampBook x = new CampBook();
        for (int i = 0; i < 5; i++) {
            due("4 numbered from 0 as they come", x.leader(), i);
            due("T none free at first", x.free(i, 1), 0);
            for (int sort = 0; sort < 4; sort++) {
                due("4 without papers", x.lose(i, sort), NONE);
            }
        }
        due("T 5 leaders at most", x.leader(), FULL);
        due("4 FULL again", x.leader(), FULL);
        due("4 still 5", x.many(1), 5);
        due("4 the fifth is one", x.paper(4, 3, 0, 0), 1);
        due("4 there is no sixth", x.paper(5, 3, 0, 0), NUMBER);
    }

    private static void paperNumbers() {
        range("5 leader", 0, 0, EdgesTest::one, (x, v) -> x.paper(v, 0, 0, 0));
        range("5 leader of five", 0, 4, EdgesTest::fullBook, (x, v) -> x.paper(v, 0, 0, 0));
        range("5 sort", 0, 3, EdgesTest::one, (x, v) -> x.paper(0, v, 0, 0));
        range("5 from", 0, 999, EdgesTest::one, (x, v) -> x.paper(0, 0, v, 999));
        range("5 to", 0, 999, EdgesTest::one, (x, v) -> x.paper(0, 0, 0, v));
        range("5 from is not behind to", 0, 500, EdgesTest::one, (x, v) -> x.paper(0, 0, v, 500));
        range("5 to is not ahead of from", 500, 999, EdgesTest::one, (x, v) -> x.paper(0, 0, 500, v));
        range("5 both days", 0, 999, EdgesTest::one, (x, v) -> x.paper(0, 0, v, v));
        range("6 leader", 0, 0, EdgesTest::one, (x, v) -> x.lose(v, 0));
        range("6 leader of five", 0, 4, EdgesTest::fullBook, (x, v) -> x.lose(v, 3));
        range("6 sort", 0, 3, EdgesTest::one, (x, v) -> x.lose(0, v));
    }

    /** A signature for each day around a paper's ends. */
    private static void paperDays(int from, int to) {
        CampBook x = one();
        x.paper(0, 0, from, to);
        int[] days = {0, 1, from - 1, from, from + 1, to - 1, to, to + 1, 998, 999};
        for (int day : days) {
            if (day >= 0 && day <= 999) {
                int signature = x.sign(0, 0, 0, day);
                int want = day >= from && day <= to ? 1 : 0;
                due("T paper " + from + " to " + to + ", both with it, day " + day, x.of(signature, 5), want);
            }
        }
        due("T done from the paper's first day", x.done(0, 0), from);
    }

    private static void papersHold() {
        paperDays(0, 0);
        paperDays(0, 999);
        paperDays(999, 999);
        paperDays(10, 10);
        paperDays(10, 20);
        paperDays(1, 998);
        CampBook x = one();
        for (int sort = 1; sort < 4; sort++) {
            x.task(sort, -1);
        }
        x.leader();
        for (int task = 0; task < 4; task++) {
            x.sign(0, task, 0, 7);
            x.sign(0, task, 1, 7);
        }
        due("T papers of another leader don't serve", x.many(6), 4);
        for (int sort = 0; sort < 4; sort++) {
            due("6 there was one", x.lose(0, sort), 1);
            due("T papers of another sort don't serve", x.done(0, sort), NONE);
            due("6 the other sorts stay", x.many(6), 3 - sort);
            due("6 NONE: there is none any more", x.lose(0, sort), NONE);
        }
        for (int sort = 0; sort < 4; sort++) {
            due("5 the other leader's", x.paper(1, sort, 7, 7), 1);
            due("5 holds for its sort alone", x.many(6), sort + 1);
        }
        due("T one of a sort at most: the later", x.paper(1, 3, 8, 9), 1);
        due("5 in place of the other one", x.done(0, 3), NONE);
        due("6 one is lost", x.lose(1, 3), 1);
        due("6 and no other comes back", x.lose(1, 3), NONE);
        due("6 NUMBER of leader ahead of NONE", x.lose(2, 3), NUMBER);
        due("6 NUMBER of sort ahead of NONE", x.lose(1, 4), NUMBER);
    }

    /** No paper, never had or lost: it holds on no day, the first and the last ones among them. */
    private static void withoutPapers() {
        CampBook x = one();
        x.leader();
        for (int day : new int[] {0, 1, 998, 999}) {
            due("4 without papers, day " + day, x.of(x.sign(0, 0, 1, day), 5), 0);
            due("T the other leader has one, day " + day, x.of(x.sign(0, 0, 0, day), 5), 1);
        }
        x.lose(0, 0);
        due("6 lost for all days", x.many(6), 0);
        x.paper(1, 0, 0, 0);
        due("5 for day 0 alone", x.many(6), 1);
        x.paper(1, 0, 999, 999);
        due("5 for day 999 alone", x.done(0, 0), 999);
        x.lose(1, 0);
        due("6 lost again", x.many(6), 0);
    }

    // ---- 7: tasks

    private static void tasks() {
        range("7 sort", 0, 3, CampBook::new, (x, v) -> x.task(v, -1));
        range("7 lean of none", -1, -1, CampBook::new, (x, v) -> x.task(0, v));
        range("7 lean of one", -1, 0, EdgesTest::one, (x, v) -> x.task(0, v));
        range("7 lean of ten", -1, 9, EdgesTest::fullBook, (x, v) -> x.task(0, v));
        CampBook x = new CampBook();
        due("7 refused, so not counted", x.task(4, -1), NUMBER);
        for (int i = 0; i < 10; i++) {
            due("T leans on a lesser one, not on itself", x.task(0, i), NUMBER);
            due("7 numbered from 0 as they come", x.task(i % 4, i - 1), i);
        }
        due("T 10 tasks at most", x.task(0, -1), FULL);
        due("7 FULL with the last lean", x.task(3, 9), FULL);
        due("7 NUMBER of sort ahead of FULL", x.task(4, -1), NUMBER);
        due("7 NUMBER of lean ahead of FULL", x.task(0, 10), NUMBER);
        due("7 still 10", x.many(2), 10);
    }

    private static void leaning() {
        CampBook x = one();
        x.child(10, 0);
        x.task(1, 0);
        x.sign(0, 1, 0, 50);
        due("T lean isn't done", x.done(0, 1), NONE);
        x.sign(1, 0, 0, 10);
        due("T lean done by another child", x.done(0, 1), NONE);
        int late = x.sign(0, 0, 0, 51);
        due("T lean done a day later", x.done(0, 1), NONE);
        int same = x.sign(0, 0, 0, 50);
        due("T lean done by that day: the same", x.done(0, 1), 50);
        int early = x.sign(0, 0, 0, 49);
        due("T lean done a day earlier", x.done(0, 1), 50);
        x.strike(same);
        due("10 an earlier one is left", x.of(0, 5), 1);
        x.strike(early);
        due("10 what leaned on it goes", x.of(0, 5), 0);
        due("10 the later one still counts", x.of(late, 5), 1);
        x.paper(0, 0, 50, 50);
        due("T no paper on the lean's day", x.done(0, 0), NONE);
        x.sign(0, 0, 0, 50);
        due("T lean's paper of that day alone", x.done(0, 1), 50);
        x.lose(0, 1);
        due("T the own paper is lost", x.done(0, 1), NONE);
        due("T the lean stays done", x.done(0, 0), 50);
        due("T the lean's signature alone counts", x.many(6), 1);
    }

    /** Ten tasks, each leaning on the one before it, signed in the wrong order. */
    private static void chain() {
        CampBook x = one();
        for (int task = 1; task < 10; task++) {
            x.task(task % 4, task - 1);
        }
        for (int task = 9; task >= 1; task--) {
            x.sign(0, task, 0, 990 + task);
        }
        due("T the chain has no start", x.many(6), 0);
        int start = x.sign(0, 0, 0, 990);
        due("T the chain stands", x.many(6), 10);
        due("T its last is done on the last day", x.done(0, 9), 999);
        x.paper(0, 1, 0, 990);
        due("T from the second on it is gone", x.many(6), 1);
        x.paper(0, 1, 991, 999);
        due("T it stands again", x.many(6), 10);
        x.strike(start);
        due("10 a struck signature takes the chain", x.many(6), 0);
        x.sign(0, 0, 0, 991);
        due("T a start on the second's day will do", x.many(6), 10);
    }

    private static void severalOnOne() {
        CampBook x = one();
        x.task(1, 0);
        x.task(2, 0);
        x.sign(0, 1, 0, 5);
        x.sign(0, 2, 0, 4);
        x.sign(0, 0, 0, 5);
        due("T one leaner's day is reached", x.done(0, 1), 5);
        due("T the other's isn't", x.done(0, 2), NONE);
    }

    // ---- 8, 13, 14: badges

    private static void badgeNumbers() {
        range("8 all", 0, 1023, CampBook::new, (x, v) -> x.badge(v, 0, 0, 6, -1));
        range("8 some", 0, 1023, CampBook::new, (x, v) -> x.badge(0, v, 0, 6, -1));
        range("8 many", 0, 10, CampBook::new, (x, v) -> x.badge(0, 0, v, 6, -1));
        range("8 age", 6, 18, CampBook::new, (x, v) -> x.badge(0, 0, 0, v, -1));
        range("8 badge of none", -1, -1, CampBook::new, (x, v) -> x.badge(0, 0, 0, 6, v));
        range("8 badge of eight", -1, 7, EdgesTest::fullBook, (x, v) -> x.badge(0, 0, 0, 6, v));
        CampBook x = new CampBook();
        due("8 refused, so not counted", x.badge(0, 0, 0, 5, -1), NUMBER);
        for (int i = 0; i < 8; i++) {
            due("T asks for a lesser one, not for itself", x.badge(0, 0, 0, 6, i), NUMBER);
            due("8 numbered from 0 as they come", x.badge(0, 0, 0, 6, i - 1), i);
        }
        due("T 8 badges at most", x.badge(0, 0, 0, 6, -1), FULL);
        due("8 FULL with the last of all", x.badge(1023, 1023, 10, 18, 7), FULL);
        due("8 NUMBER of all ahead of FULL", x.badge(1024, 0, 0, 6, -1), NUMBER);
        due("8 NUMBER of some ahead of FULL", x.badge(0, 1024, 0, 6, -1), NUMBER);
        due("8 NUMBER of many ahead of FULL", x.badge(0, 0, 11, 6, -1), NUMBER);
        due("8 NUMBER of age ahead of FULL", x.badge(0, 0, 0, 19, -1), NUMBER);
        due("8 NUMBER of badge ahead of FULL", x.badge(0, 0, 0, 6, 8), NUMBER);
        due("8 still 8", x.many(4), 8);
    }

    private static void asksForNothing() {
        CampBook x = new CampBook();
        x.child(6, 0);
        x.badge(0, 0, 0, 6, -1);
        x.badge(0, 1023, 0, 6, -1);
        x.badge(0, 0, 0, 6, 0);
        x.badge(0, 0, 1, 6, -1);
        x.badge(1, 0, 0, 6, -1);
        due("T day 0 if it asks for nothing", x.held(0, 0), 0);
        due("T none of SOME is asked for", x.held(0, 1), 0);
        due("T the other alone, held from 0", x.held(0, 2), 0);
        due("T one of no SOME", x.held(0, 3), NONE);
        due("8 a task that there isn't is never done", x.held(0, 4), NONE);
        due("15 on day 0", x.badges(0, 0), 3);
        due("15 on day 999", x.badges(0, 999), 3);
        due("22 held", x.many(7), 3);
    }

    private static void allOfBadge() {
        CampBook x = tenTasks();
        x.badge(1023, 0, 0, 6, -1);
        x.badge(512, 0, 0, 6, -1);
        x.badge(1, 0, 0, 6, -1);
        for (int task = 9; task >= 1; task--) {
            due("14 ALL that aren't done", x.lacks(0, 0, 0), (2 << task) - 1);
            x.sign(0, task, 0, 100 + task);
            due("T not before ALL are done", x.held(0, 0), NONE);
        }
        due("T the last task alone", x.held(0, 1), 109);
        due("14 the first is left", x.lacks(0, 0, 0), 1);
        x.sign(0, 0, 0, 999);
        due("T ALL by the last one's day", x.held(0, 0), 999);
        due("14 none is left", x.lacks(0, 0, 0), 0);
        due("15 the day before", x.badges(0, 998), 1);
        due("15 that day", x.badges(0, 999), 3);
        x.sign(0, 0, 0, 0);
        due("T done earlier, held earlier", x.held(0, 0), 109);
        due("T held from day 0", x.held(0, 2), 0);
    }

    /** A task that a badge asks for comes only after the badge. */
    private static void taskComesLater() {
        CampBook x = one();
        x.badge(2, 0, 0, 6, -1);
        x.badge(0, 3, 2, 6, -1);
        x.sign(0, 0, 0, 3);
        due("8 not there: never done", x.held(0, 0), NONE);
        due("14 not there: lacked", x.lacks(0, 0, 0), 2);
        due("14 not there: still wanted", x.lacks(0, 1, 1), 1);
        x.task(0, -1);
        due("8 there, not done", x.held(0, 0), NONE);
        x.sign(0, 1, 0, 2);
        due("8 there and done", x.held(0, 0), 2);
        due("8 SOME with it", x.held(0, 1), 3);
    }

    private static void someOfBadge() {
        CampBook x = tenTasks();
        x.badge(0, 1023, 10, 6, -1);
        x.badge(0, 1023, 1, 6, -1);
        x.badge(0, 1023, 3, 6, -1);
        x.badge(0, 0b110, 3, 6, -1);
        x.badge(0, 0b110, 2, 6, -1);
        due("14 ten are wanted", x.lacks(0, 0, 1), 10);
        for (int task = 0; task < 9; task++) {
            x.sign(0, task, 0, 200 - 10 * task);
            due("14 fewer are wanted", x.lacks(0, 0, 1), 9 - task);
            due("T nine of ten are too few", x.held(0, 0), NONE);
            due("T one: from the earliest", x.held(0, 1), 200 - 10 * task);
            due("T three: from the third earliest", x.held(0, 2), task < 2 ? NONE : 220 - 10 * task);
        }
        x.sign(0, 9, 0, 300);
        due("T ten of ten", x.held(0, 0), 300);
        due("14 none is wanted any more", x.lacks(0, 0, 1), 0);
        due("14 0 at least", x.lacks(0, 1, 1), 0);
        due("T more than there are bits", x.held(0, 3), NONE);
        due("14 one is wanted for ever", x.lacks(0, 3, 1), 1);
        due("T as many as there are bits", x.held(0, 4), 190);
        due("T others don't serve", x.lacks(0, 4, 0), 0);
    }

    private static void someOnOneDay() {
        CampBook x = tenTasks();
        x.badge(0, 7, 2, 6, -1);
        x.sign(0, 0, 0, 5);
        x.sign(0, 1, 0, 5);
        due("T two on the same day", x.held(0, 0), 5);
        x.sign(0, 2, 0, 4);
        due("T one earlier, then one of two", x.held(0, 0), 5);
        x.sign(0, 0, 0, 0);
        due("T day 0 and day 4", x.held(0, 0), 4);
        x.sign(0, 2, 0, 0);
        due("T two on day 0", x.held(0, 0), 0);
    }

    private static void ageOfBadge() {
        for (int age = 6; age <= 18; age++) {
            CampBook x = new CampBook();
            x.child(age, 0);
            x.badge(0, 0, 0, age, -1);
            due("T of that age, " + age, x.held(0, 0), 0);
            due("14 no year is lacked", x.lacks(0, 0, 2), 0);
            if (age < 18) {
                x.badge(0, 0, 0, age + 1, -1);
                due("T a year too young, " + age, x.held(0, 1), NONE);
                due("14 a year is lacked", x.lacks(0, 1, 2), 1);
                x.change(0, 0, age + 1);
                due("T or above", x.held(0, 0), 0);
                due("14 0 at least", x.lacks(0, 0, 2), 0);
                due("T grown", x.held(0, 1), 0);
            }
        }
        CampBook x = new CampBook();
        x.child(6, 0);
        x.badge(0, 0, 0, 18, -1);
        due("14 most years", x.lacks(0, 0, 2), 12);
        x.change(0, 0, 18);
        x.badge(0, 0, 0, 6, -1);
        due("14 far above", x.lacks(0, 1, 2), 0);
    }

    private static void otherOfBadge() {
        CampBook x = one();
        x.task(0, -1);
        x.badge(1, 0, 0, 6, -1);
        x.badge(2, 0, 0, 6, 0);
        x.badge(0, 0, 0, 11, -1);
        x.badge(0, 0, 0, 6, 2);
        due("14 asks for no other", x.lacks(0, 0, 3), 0);
        due("14 the other isn't held", x.lacks(0, 1, 3), 1);
        x.sign(0, 1, 0, 5);
        due("T the other isn't held", x.held(0, 1), NONE);
        int late = x.sign(0, 0, 0, 9);
        due("T from the other's day", x.held(0, 1), 9);
        due("14 the other is held", x.lacks(0, 1, 3), 0);
        x.sign(0, 0, 0, 3);
        due("T from the own day", x.held(0, 1), 5);
        due("10 the later may go", x.strike(late), 1);
        due("T stays", x.held(0, 1), 5);
        due("T too young for the other", x.held(0, 3), NONE);
        due("14 too young: lacks the other", x.lacks(0, 3, 3), 1);
        x.change(0, 0, 11);
        due("T old enough for the other", x.held(0, 3), 0);
        x.change(0, 0, 10);
        due("3 younger again", x.held(0, 3), NONE);
    }

    private static void badgeChain() {
        CampBook x = one();
        x.badge(1, 0, 0, 6, -1);
        for (int badge = 1; badge < 8; badge++) {
            x.badge(0, 0, 0, 6 + badge / 2, badge - 1);
        }
        due("T none of the chain", x.many(7), 0);
        x.sign(0, 0, 0, 999);
        due("T the last of the chain", x.held(0, 7), 999);
        due("15 eight badges", x.badges(0, 999), 8);
        due("15 none the day before", x.badges(0, 998), 0);
        x.change(0, 0, 7);
        due("T the chain breaks by age", x.badges(0, 999), 4);
        due("13 the first behind it", x.held(0, 4), NONE);
        due("13 the last before it", x.held(0, 3), 999);
        x.strike(0);
        due("10 takes the badges too", x.many(7), 0);
    }

    /** What is done or held from the first or the last day on is lacked no more. */
    private static void lackedOnTheLastDay() {
        for (int day : new int[] {0, 1, 998, 999}) {
            CampBook x = one();
            x.badge(1, 0, 0, 6, -1);
            x.badge(0, 1, 1, 6, 0);
            int[] before = {1, 1, 0, 1};
            int[] after = {0, 0, 0, 0};
            for (int what = 0; what < 4; what++) {
                due("14 lacked, what " + what, x.lacks(0, what == 0 ? 0 : 1, what), before[what]);
            }
            x.sign(0, 0, 0, day);
            for (int what = 0; what < 4; what++) {
                due("14 done on day " + day + ", what " + what, x.lacks(0, what == 0 ? 0 : 1, what), after[what]);
            }
            due("13 held from that day", x.held(0, 1), day);
        }
    }

    // ---- 9, 10, 11, 12, 15: signatures

    private static CampBook signed() {
        CampBook x = one();
        x.sign(0, 0, 0, 0);
        x.badge(0, 0, 0, 6, -1);
        return x;
    }

    private static void signatureNumbers() {
        range("9 child", 0, 0, EdgesTest::one, (x, v) -> x.sign(v, 0, 0, 0));
        range("9 task", 0, 0, EdgesTest::one, (x, v) -> x.sign(0, v, 0, 0));
        range("9 leader", 0, 0, EdgesTest::one, (x, v) -> x.sign(0, 0, v, 0));
        range("9 day", 0, 999, EdgesTest::one, (x, v) -> x.sign(0, 0, 0, v));
        range("9 child of ten", 0, 9, EdgesTest::fullBook, (x, v) -> x.sign(v, 0, 0, 0));
        range("9 task of ten", 0, 9, EdgesTest::fullBook, (x, v) -> x.sign(0, v, 0, 0));
        range("9 leader of five", 0, 4, EdgesTest::fullBook, (x, v) -> x.sign(0, 0, v, 0));
        range("10 signature", 0, 0, EdgesTest::signed, (x, v) -> x.strike(v));
        range("10 signature of eighty", 0, 79, EdgesTest::fullBook, (x, v) -> x.strike(v));
        range("11 signature", 0, 0, EdgesTest::signed, (x, v) -> x.of(v, 0));
        range("11 signature of eighty", 0, 79, EdgesTest::fullBook, (x, v) -> x.of(v, 5));
        range("11 what", 0, 5, EdgesTest::signed, (x, v) -> x.of(0, v));
        range("12 child", 0, 0, EdgesTest::signed, (x, v) -> x.done(v, 0));
        range("12 task", 0, 0, EdgesTest::signed, (x, v) -> x.done(0, v));
        range("12 child of ten", 0, 9, EdgesTest::fullBook, (x, v) -> x.done(v, 9));
        range("12 task of ten", 0, 9, EdgesTest::fullBook, (x, v) -> x.done(9, v));
        range("13 child", 0, 0, EdgesTest::signed, (x, v) -> x.held(v, 0));
        range("13 badge", 0, 0, EdgesTest::signed, (x, v) -> x.held(0, v));
        range("13 child of ten", 0, 9, EdgesTest::fullBook, (x, v) -> x.held(v, 7));
        range("13 badge of eight", 0, 7, EdgesTest::fullBook, (x, v) -> x.held(9, v));
        range("14 child", 0, 0, EdgesTest::signed, (x, v) -> x.lacks(v, 0, 0));
        range("14 badge", 0, 0, EdgesTest::signed, (x, v) -> x.lacks(0, v, 0));
        range("14 child of ten", 0, 9, EdgesTest::fullBook, (x, v) -> x.lacks(v, 7, 3));
        range("14 badge of eight", 0, 7, EdgesTest::fullBook, (x, v) -> x.lacks(9, v, 3));
        range("14 what", 0, 3, EdgesTest::signed, (x, v) -> x.lacks(0, 0, v));
        range("15 child", 0, 0, EdgesTest::signed, (x, v) -> x.badges(v, 0));
        range("15 child of ten", 0, 9, EdgesTest::fullBook, (x, v) -> x.badges(v, 999));
        range("15 day", 0, 999, EdgesTest::signed, (x, v) -> x.badges(0, v));
    }

    private static void signatures() {
        CampBook x = one();
        due("9 refused, so not counted", x.sign(0, 0, 0, 1000), NUMBER);
        for (int i = 0; i < 80; i++) {
            due("9 numbered from 0 as they come", x.sign(0, 0, 0, 999 - i), i);
        }
        due("T 80 signatures at most", x.sign(0, 0, 0, 0), FULL);
        due("9 NUMBER of child ahead of FULL", x.sign(1, 0, 0, 0), NUMBER);
        due("9 NUMBER of task ahead of FULL", x.sign(0, 1, 0, 0), NUMBER);
        due("9 NUMBER of leader ahead of FULL", x.sign(0, 0, 1, 0), NUMBER);
        due("9 NUMBER of day ahead of FULL", x.sign(0, 0, 0, -1), NUMBER);
        due("9 still 80", x.many(3), 80);
        due("12 the earliest is the last one", x.done(0, 0), 920);
        for (int i = 79; i >= 0; i--) {
            due("11 its day", x.of(i, 3), 999 - i);
            due("11 not struck yet", x.of(i, 4), 0);
            due("10 struck", x.strike(i), 1);
            due("12 the next earliest", x.done(0, 0), i == 0 ? NONE : 1000 - i);
        }
        due("10 TWICE", x.strike(79), TWICE);
        due("10 TWICE of the first", x.strike(0), TWICE);
        due("9 a struck one makes no room", x.sign(0, 0, 0, 0), FULL);
        due("22 struck ones are still there", x.many(3), 80);
        due("22 none counts", x.many(6), 0);
    }

    private static void twoOnOneDay() {
        CampBook x = one();
        x.leader();
        x.paper(1, 0, 6, 6);
        x.sign(0, 0, 0, 6);
        x.sign(0, 0, 1, 6);
        due("T two count", x.many(6), 2);
        x.strike(0);
        due("T the other stays", x.done(0, 0), 6);
        x.lose(1, 0);
        due("T and goes with its paper", x.done(0, 0), NONE);
        due("11 struck, so it doesn't count", x.of(0, 5), 0);
        due("11 lost, so it isn't struck", x.of(1, 4), 0);
        due("10 one that doesn't count may be struck", x.strike(1), 1);
        x.paper(1, 0, 6, 6);
        due("10 and doesn't come back", x.of(1, 5), 0);
    }

    private static void ofTheLast() {
        CampBook x = fullBook();
        int[] want = {9, 9, 4, 79, 0, 1};
        for (int what = 0; what < 6; what++) {
            due("11 of the last, what " + what, x.of(79, what), want[what]);
        }
        due("11 one behind the last", x.of(80, 0), NUMBER);
        due("10 one behind the last", x.strike(80), NUMBER);
        due("11 LOW", x.of(LOW, 5), NUMBER);
        due("11 HIGH", x.of(HIGH, 5), NUMBER);
        due("12 the last child, the last task", x.done(9, 9), 79);
        due("12 the first child, the last task", x.done(0, 9), NONE);
        due("12 NUMBER of child ahead of NONE", x.done(10, 9), NUMBER);
        due("12 NUMBER of task ahead of NONE", x.done(0, 10), NUMBER);
        due("13 NUMBER of child ahead of NONE", x.held(10, 0), NUMBER);
        due("13 NUMBER of badge ahead of NONE", x.held(0, 8), NUMBER);
        manys("22 full", x, 10, 5, 10, 80, 8, 3, 80, 80, 3, 3, 2, 2);
    }

    // ---- 16 to 19: sites, wishes, free leaders, the ratio

    private static void sites() {
        range("16 beds", 1, 10, CampBook::new, (x, v) -> x.site(v, false));
        range("16 beds of a wood", 1, 10, CampBook::new, (x, v) -> x.site(v, true));
        CampBook x = new CampBook();
        due("16 refused, so not counted", x.site(0, true), NUMBER);
        for (int i = 0; i < 3; i++) {
            due("16 numbered from 0 as they come", x.site(1, i == 1), i);
        }
        due("T 3 sites at most", x.site(1, false), FULL);
        due("16 FULL of a wood", x.site(10, true), FULL);
        due("16 NUMBER ahead of FULL, below", x.site(0, false), NUMBER);
        due("16 NUMBER ahead of FULL, above", x.site(11, true), NUMBER);
        due("16 still 3", x.many(5), 3);
    }

    private static void wishes() {
        range("17 patrol", 0, 3, CampBook::new, (x, v) -> x.wish(v, 0, 0, 1));
        range("17 weekend", 0, 4, CampBook::new, (x, v) -> x.wish(0, v, 0, 1));
        range("17 site, whether there is one yet or not", 0, 2, CampBook::new, (x, v) -> x.wish(0, 0, v, 1));
        range("17 site of three", 0, 2, EdgesTest::fullBook, (x, v) -> x.wish(0, 0, v, 1));
        range("17 wishes", 0, 9, CampBook::new, (x, v) -> x.wish(0, 0, 0, v));
        CampBook x = new CampBook();
        x.child(6, 0);
        x.leader();
        x.free(0, 31);
        x.wish(0, 4, 2, 9);
        for (int site = 0; site < 2; site++) {
            x.site(1, false);
            due("17 its site hasn't come yet", x.plan(0), NONE);
        }
        x.site(1, true);
        due("17 its site has come", x.plan(0), 14);
        due("21 the last weekend", x.planned(6), 1);
    }

    private static void freeLeaders() {
        range("18 leader", 0, 0, EdgesTest::one, (x, v) -> x.free(v, 31));
        range("18 leader of five", 0, 4, EdgesTest::fullBook, (x, v) -> x.free(v, 0));
        range("18 bits", 0, 31, EdgesTest::one, (x, v) -> x.free(0, v));
        CampBook x = camp(1, false, 1);
        for (int weekend = 0; weekend < 5; weekend++) {
            x.wish(0, weekend, 0, 9);
        }
        due("18 was all", x.free(0, 0), 31);
        due("T no leader is free", x.plan(0), NONE);
        for (int weekend = 0; weekend < 5; weekend++) {
            due("18 was the one before", x.free(0, 1 << weekend), weekend == 0 ? 0 : 1 << weekend - 1);
            due("18 the bit of weekend " + weekend, x.plan(0), 3 * weekend);
            x.free(0, 31 - (1 << weekend));
            due("18 not that weekend", x.plan(0), weekend == 0 ? 3 : 0);
            x.free(0, 1 << weekend);
        }
        due("18 the last bit", x.free(0, 31), 16);
    }

    private static void ratios() {
        range("19 ratio", 1, 10, CampBook::new, (x, v) -> x.ratio(v));
        CampBook x = new CampBook();
        due("19 to what it is", x.ratio(5), 5);
        due("19 to the least", x.ratio(1), 5);
        due("19 refused below", x.ratio(0), NUMBER);
        due("19 to the greatest", x.ratio(10), 1);
        due("19 refused above", x.ratio(11), NUMBER);
        due("19 LOW", x.ratio(LOW), NUMBER);
        due("19 HIGH", x.ratio(HIGH), NUMBER);
        due("19 was the greatest", x.ratio(1), 10);
    }

    // ---- 20, 21: the plan

    private static void planNumbers() {
        range("20 patrol", 0, 3, CampBook::new, (x, v) -> x.plan(v));
        range("20 patrol of a full book", 0, 3, EdgesTest::fullBook, (x, v) -> x.plan(v));
        range("21 what", 0, 6, CampBook::new, (x, v) -> x.planned(v));
        range("21 what of a full book", 0, 6, EdgesTest::fullBook, (x, v) -> x.planned(v));
        range("22 what", 0, 11, CampBook::new, (x, v) -> x.many(v));
        range("22 what of a full book", 0, 11, EdgesTest::fullBook, (x, v) -> x.many(v));
    }

    private static void planNeedsChildren() {
        CampBook x = camp(5, false, 0, 1);
        x.wish(0, 0, 0, 9);
        x.wish(1, 0, 0, 1);
        plans("T a patrol without children is given nothing", x, NONE, 0, NONE, NONE);
        x.change(0, 1, 0);
        plans("T its only child changed over", x, 0, NONE, NONE, NONE);
        due("21 worth of the new one", x.planned(0), 9);
    }

    private static void planBeds() {
        for (int beds = 1; beds <= 10; beds++) {
            CampBook x = new CampBook();
            x.leader();
            x.free(0, 1);
            x.ratio(10);
            x.site(beds, beds % 2 == 0);
            x.wish(0, 0, 0, 1);
            for (int child = 0; child < beds; child++) {
                x.child(6, 0);
            }
            due("T as many children as beds, " + beds, x.plan(0), 0);
            if (beds < 10) {
                x.child(6, 0);
                due("T one child more than beds, " + beds, x.plan(0), NONE);
            }
        }
    }

    private static void planRatio() {
        for (int leaders = 1; leaders <= 5; leaders++) {
            for (int ratio = 1; ratio * leaders <= 10; ratio++) {
                CampBook x = camp(leaders, false, ratio * leaders);
                x.wish(0, 2, 1, 3);
                x.ratio(ratio);
                due("T children as ratio times leaders", x.plan(0), 7);
                if (ratio * leaders < 10) {
                    x.child(6, 0);
                    due("T one child more than ratio times leaders", x.plan(0), NONE);
                    x.change(0, 1, 3);
                }
                x.free(0, 27);
                due("T one leader fewer", x.plan(0), NONE);
            }
        }
        CampBook none = camp(0, false, 1);
        none.ratio(10);
        none.wish(0, 0, 0, 9);
        due("T no leader at all", none.plan(0), NONE);
    }

    private static void planRatioTogether() {
        CampBook x = camp(1, false, 2, 3);
        x.wish(0, 0, 0, 4);
        x.wish(1, 0, 1, 5);
        plans("T all of a weekend together, just enough", x, 0, 1);
        due("21 away together", x.planned(2), 5);
        x.ratio(4);
        plans("T all of a weekend together, one too many", x, NONE, 1);
        x.wish(0, 1, 0, 1);
        plans("T another weekend is for itself", x, 3, 1);
        due("21 away first", x.planned(2), 3);
        due("21 away next", x.planned(3), 2);
        x.ratio(2);
        plans("T only the smaller one", x, 0, NONE);
    }

    private static void planSameSlot() {
        CampBook x = camp(2, false, 1, 1);
        x.wish(0, 3, 2, 7);
        x.wish(1, 3, 2, 7);
        plans("T not the same weekend and site", x, 11, NONE);
        due("21 worth of one", x.planned(0), 7);
        x.wish(1, 3, 1, 1);
        plans("T the same weekend, another site", x, 11, 10);
        x.wish(1, 4, 2, 2);
        plans("T the same site, another weekend", x, 11, 14);
        x.wish(1, 3, 2, 9);
        plans("T the greater wish takes it", x, NONE, 11);
        x.wish(0, 0, 0, 1);
        plans("T more together", x, 0, 11);
    }

    private static void planWoods() {
        for (int site = 0; site < 3; site++) {
            for (int first = 0; first < 5; first++) {
                for (int second = 0; second < 5; second++) {
                    boolean rests = Math.abs(first - second) > 1;
                    woodPair(site, first, second, rests);
                }
            }
        }
        CampBook x = camp(5, true, 1, 1, 1);
        x.wish(0, 0, 0, 9);
        x.wish(1, 1, 1, 9);
        x.wish(2, 2, 2, 9);
        plans("T another wood needn't rest", x, 0, 4, 8);
        CampBook y = camp(5, true, 1, 1);
        y.wish(0, 0, 2, 9);
        y.wish(1, 1, 0, 9);
        plans("T neighbours by number alone", y, 2, 3);
        CampBook z = camp(5, true, 1, 1, 1, 1);
        for (int patrol = 0; patrol < 4; patrol++) {
            z.wish(patrol, patrol, 1, 5);
        }
        plans("T every other weekend, the first ones", z, 1, NONE, 7, NONE);
        z.wish(3, 4, 1, 5);
        plans("T three of five weekends", z, 1, NONE, 7, 13);
    }

    private static void woodPair(int site, int first, int second, boolean rests) {
        String pair = ", site " + site + ", weekends " + first + " and " + second;
        CampBook wood = camp(5, true, 1, 1);
        wood.wish(0, first, site, 2);
        wood.wish(1, second, site, 3);
        due("T a wood rests" + pair, wood.planned(0), rests ? 5 : 3);
        CampBook hut = camp(5, false, 1, 1);
        hut.wish(0, first, site, 2);
        hut.wish(1, second, site, 3);
        due("T a hut doesn't" + pair, hut.planned(0), first != second ? 5 : 3);
    }

    /** Woods and huts side by side: only the wood rests. */
    private static void planMixed() {
        CampBook x = new CampBook();
        for (int patrol = 0; patrol < 4; patrol++) {
            x.child(6, patrol);
        }
        x.leader();
        x.free(0, 31);
        x.site(1, true);
        x.site(1, false);
        for (int patrol = 0; patrol < 4; patrol++) {
            x.wish(patrol, patrol / 2, patrol % 2, 9);
        }
        plans("T the hut is used twice, the wood once", x, 0, 1, NONE, 4);
        due("21 worth", x.planned(0), 27);
        due("21 given", x.planned(1), 3);
    }

    private static void planWorth() {
        CampBook x = camp(5, false, 1, 2, 3, 4);
        for (int patrol = 0; patrol < 4; patrol++) {
            x.wish(patrol, 4, patrol % 3, 9);
            x.wish(patrol, 0, patrol % 3, 9);
        }
        due("T the greatest worth of all", x.planned(0), 36);
        due("21 all four are given something", x.planned(1), 4);
        plans("T the first one's slot is the lesser", x, 0, 1, 2, 12);
        int[] want = {36, 4, 6, 0, 0, 0, 4};
        for (int what = 0; what < 7; what++) {
            due("21 what " + what, x.planned(what), want[what]);
        }
        for (int i = 0; i < 60; i++) {
            x.wish(i / 15, i / 3 % 5, i % 3, 0);
        }
        due("T no wishes, no worth", x.planned(0), 0);
        due("T no wishes, the fewest patrols", x.planned(1), 0);
        plans("20 NONE", x, NONE, NONE, NONE, NONE);
        x.wish(3, 4, 2, 1);
        plans("T the least wish is enough", x, NONE, NONE, NONE, 14);
        CampBook ten = camp(1, true, 10);
        ten.ratio(10);
        ten.wish(0, 4, 2, 9);
        due("21 all ten away", ten.planned(6), 10);
        due("21 none on the first weekend", ten.planned(2), 0);
    }

    private static void planFewest() {
        CampBook x = camp(1, false, 1, 1, 2);
        x.ratio(2);
        x.wish(0, 0, 0, 4);
        x.wish(1, 0, 1, 5);
        x.wish(2, 0, 2, 9);
        plans("T of equal worth the fewest patrols", x, NONE, NONE, 2);
        due("21 one", x.planned(1), 1);
        x.wish(2, 0, 2, 8);
        plans("T greater worth ahead of fewer patrols", x, 0, 1, NONE);
        due("21 two", x.planned(1), 2);
        CampBook y = camp(1, false, 1, 1, 1, 3);
        y.ratio(3);
        y.wish(0, 0, 0, 3);
        y.wish(1, 0, 1, 3);
        y.wish(2, 0, 2, 3);
        y.wish(3, 0, 0, 9);
        plans("T one ahead of three", y, NONE, NONE, NONE, 0);
        CampBook z = camp(1, false, 1, 2, 2);
        z.ratio(3);
        z.wish(0, 0, 0, 1);
        z.wish(1, 0, 1, 8);
        z.wish(2, 0, 2, 9);
        z.wish(2, 1, 2, 8);
        plans("T three for more than two", z, 0, 1, 5);
        due("21 three", z.planned(0), 17);
    }

    private static void planFirst() {
        CampBook x = camp(1, false, 1, 1, 1, 1);
        x.ratio(1);
        for (int patrol = 0; patrol < 4; patrol++) {
            x.wish(patrol, 4, 2, 9);
        }
        plans("T none stands behind all", x, 14, NONE, NONE, NONE);
        x.wish(0, 4, 2, 8);
        plans("T the next one's", x, NONE, 14, NONE, NONE);
        CampBook y = camp(2, false, 1, 1);
        for (int slot : new int[] {2, 5, 14}) {
            y.wish(0, slot / 3, slot % 3, 6);
            y.wish(1, slot / 3, slot % 3, 6);
        }
        plans("T lesser slots, the first patrol's first", y, 2, 5);
        y.wish(1, 1, 2, 5);
        plans("T the second patrol's next", y, 2, 14);
        y.wish(1, 4, 2, 5);
        plans("T worth ahead of the first patrol's slot", y, 5, 2);
        y.wish(0, 1, 2, 0);
        plans("T the last slot too", y, 14, 2);
        CampBook z = camp(2, false, 1);
        z.wish(0, 0, 2, 5);
        z.wish(0, 1, 0, 5);
        plans("T weekend ahead of site", z, 2);
        z.wish(0, 0, 0, 5);
        plans("T the first of all slots", z, 0);
    }

    private static void planFollows() {
        CampBook x = camp(1, false, 2, 1);
        x.wish(0, 1, 1, 5);
        due("20 given", x.plan(0), 4);
        due("19 refused", x.ratio(0), NUMBER);
        due("20 as it was", x.plan(0), 4);
        x.ratio(1);
        due("19 too few leaders", x.plan(0), NONE);
        x.leader();
        due("4 a leader who isn't free", x.plan(0), NONE);
        x.free(1, 2);
        due("18 a leader who is free", x.plan(0), 4);
        x.child(6, 0);
        due("2 a child more", x.plan(0), NONE);
        x.change(0, 1, 1);
        due("3 a child less", x.plan(0), 4);
        x.change(1, 0, 18);
        due("3 an age is nothing to it", x.plan(0), 4);
        x.wish(0, 1, 1, 0);
        due("17 no wish any more", x.plan(0), NONE);
        x.keep();
        x.wish(0, 1, 1, 9);
        due("17 again", x.plan(0), 4);
        x.back();
        due("24 as it was kept", x.plan(0), NONE);
        CampBook y = new CampBook();
        y.child(6, 0);
        y.leader();
        y.free(0, 31);
        y.wish(0, 1, 0, 2);
        due("20 no site", y.plan(0), NONE);
        y.site(1, false);
        due("16 a site came", y.plan(0), 3);
    }

    // ---- 22, 23, 24

    private static void counts() {
        CampBook x = one();
        x.child(10, 3);
        x.badge(0, 0, 0, 6, -1);
        x.badge(1, 0, 0, 6, -1);
        x.sign(0, 0, 0, 999);
        x.site(1, true);
        manys("22 a few", x, 2, 1, 1, 1, 2, 1, 1, 3, 1, 0, 0, 1);
        due("22 behind the last patrol", x.many(12), NUMBER);
        due("22 below", x.many(-1), NUMBER);
    }

    private static void keepNothing() {
        CampBook x = new CampBook();
        due("24 NONE", x.back(), NONE);
        due("24 NONE again", x.back(), NONE);
        due("23 an empty book is kept", x.keep(), 1);
        x.child(6, 0);
        x.leader();
        x.paper(0, 0, 0, 999);
        x.free(0, 31);
        x.task(0, -1);
        x.badge(0, 0, 0, 6, -1);
        x.sign(0, 0, 0, 0);
        x.site(1, true);
        x.wish(0, 0, 0, 9);
        due("20 a plan", x.plan(0), 0);
        due("24 back to nothing", x.back(), 1);
        manys("24 nothing", x, 0, 0, 0, 0, 0, 0, 0, 0, 0, 0, 0, 0);
        due("24 no plan", x.plan(0), NONE);
        due("24 no wish", x.wish(0, 0, 0, 1), 0);
        due("24 back again", x.back(), 1);
        due("24 it stays", x.wish(0, 0, 0, 1), 0);
        due("24 the first leader again", x.leader(), 0);
        due("24 is not free", x.free(0, 1), 0);
        due("24 has no paper", x.lose(0, 0), NONE);
        due("24 the first child again", x.child(7, 1), 0);
        due("24 the first task again", x.task(1, -1), 0);
        due("24 the first signature again", x.sign(0, 0, 0, 5), 0);
        due("24 is not struck", x.of(0, 4), 0);
        due("24 has its own day", x.of(0, 3), 5);
    }

    private static void keepFull() {
        CampBook x = fullBook();
        x.strike(79);
        x.wish(3, 4, 2, 9);
        x.free(4, 16);
        due("23 a full book is kept", x.keep(), 1);
        x.strike(0);
        x.lose(4, 3);
        x.paper(0, 0, 500, 500);
        x.change(9, 0, 6);
        x.change(9, 1, 3);
        x.wish(3, 4, 2, 0);
        x.free(4, 0);
        due("24 back", x.back(), 1);
        manys("24 full", x, 10, 5, 10, 80, 8, 3, 79, 80, 3, 3, 2, 2);
        due("24 the last stays struck", x.strike(79), TWICE);
        due("24 the first isn't struck", x.strike(0), 1);
        due("24 the last paper", x.lose(4, 3), 1);
        due("24 the last age", x.change(9, 0, 18), 18);
        due("24 the last patrol", x.change(9, 1, 1), 1);
        due("24 the last wish", x.wish(3, 4, 2, 9), 9);
        due("24 the last leader is free", x.free(4, 16), 16);
        due("24 no room for a child", x.child(6, 0), FULL);
        due("24 no room for a signature", x.sign(0, 0, 0, 0), FULL);
    }

    /** Each signature, the first and the last too, is as struck or not as it was when it was kept. */
    private static void keepStruck() {
        CampBook x = fullBook();
        x.keep();
        for (int signature = 0; signature < 80; signature++) {
            x.strike(signature);
        }
        due("10 all are struck", x.many(6), 0);
        x.back();
        due("24 none is struck", x.many(6), 80);
        for (int signature = 0; signature < 80; signature++) {
            due("24 is not struck", x.of(signature, 4), 0);
        }
        for (int signature = 0; signature < 80; signature += 79) {
            due("10 struck again", x.strike(signature), 1);
        }
        x.keep();
        x.back();
        due("24 two are struck", x.many(6), 78);
        due("24 the first", x.of(0, 4), 1);
        due("24 the last", x.of(79, 4), 1);
    }

    private static void keepLatest() {
        CampBook x = new CampBook();
        x.keep();
        x.child(6, 0);
        x.keep();
        x.child(7, 0);
        due("24 back", x.back(), 1);
        due("24 what was kept latest", x.many(0), 1);
        x.child(8, 1);
        due("24 back twice", x.back(), 1);
        due("24 which stays", x.many(0), 1);
        due("24 a new second child", x.child(9, 2), 1);
        due("24 of its own age", x.change(1, 0, 6), 9);
        due("23 kept again", x.keep(), 1);
        x.back();
        due("24 with it", x.many(0), 2);
    }

    private static void keepNotRatio() {
        CampBook x = new CampBook();
        x.ratio(7);
        x.keep();
        x.ratio(10);
        x.back();
        due("23 ratio isn't kept", x.ratio(1), 10);
        x.back();
        due("23 nor by back", x.ratio(5), 1);
        CampBook y = camp(1, false, 3);
        y.wish(0, 0, 0, 2);
        y.keep();
        y.ratio(2);
        y.back();
        due("23 the plan goes by the ratio of now", y.plan(0), NONE);
        y.ratio(3);
        due("19 and follows it", y.plan(0), 0);
    }

    public static void main(String[] args) {
        newBook();
        booksAreApart();
        children();
        changes();
        leaders();
        paperNumbers();
        papersHold();
        withoutPapers();
        tasks();
        leaning();
        chain();
        severalOnOne();
        badgeNumbers();
        asksForNothing();
        allOfBadge();
        taskComesLater();
        someOfBadge();
        someOnOneDay();
        ageOfBadge();
        otherOfBadge();
        badgeChain();
        lackedOnTheLastDay();
        signatureNumbers();
        signatures();
        twoOnOneDay();
        ofTheLast();
        sites();
        wishes();
        freeLeaders();
        ratios();
        planNumbers();
        planNeedsChildren();
        planBeds();
        planRatio();
        planRatioTogether();
        planSameSlot();
        planWoods();
        planMixed();
        planWorth();
        planFewest();
        planFirst();
        planFollows();
        counts();
        keepNothing();
        keepFull();
        keepStruck();
        keepLatest();
        keepNotRatio();
        System.out.println(wrong == 0 ? asked + " answers are as due" : wrong + " answers are not as due");
        if (wrong != 0) {
            System.exit(1);
        }
    }
}
