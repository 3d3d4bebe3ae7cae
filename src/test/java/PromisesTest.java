/** For each promise of the document: ordinary inputs, the edges that it names, wrong inputs. */
public final class PromisesTest {
    private static final int LOW = Integer.MIN_VALUE;
    private static final int HIGH = Integer.MAX_VALUE;
    private static int wrong = 0;

    private static void due(String what, int got, int want) {
        if (got != want) {
            wrong++;
            System.out.println(what + " answered " + got + ", due is " + want);
        }
    }

    /** Two children, a leader with all papers, three tasks: 1 leans on 0, 2 on 1. */
    private static CampBook troop() {
        CampBook x = new CampBook();
        x.child(8, 0);
        x.child(12, 1);
        x.leader();
        for (int sort = 0; sort < 4; sort++) {
            x.paper(0, sort, 0, 999);
        }
        x.task(0, -1);
        x.task(1, 0);
        x.task(2, 1);
        return x;
    }

    /** Children by patrol, a leader free on all weekends, one site with ten beds. */
    private static CampBook camp(int[] children, boolean wood) {
        CampBook x = new CampBook();
        for (int patrol = 0; patrol < children.length; patrol++) {
            for (int i = 0; i < children[patrol]; i++) {
                x.child(10, patrol);
            }
        }
        x.leader();
        x.free(0, 31);
        x.site(10, wood);
        return x;
    }

    private static void newObject() {
        CampBook x = new CampBook();
        for (int what = 0; what < 12; what++) {
            due("1 many " + what, x.many(what), 0);
        }
        for (int patrol = 0; patrol < 4; patrol++) {
            due("1 plan " + patrol, x.plan(patrol), CampBook.NONE);
            for (int slot = 0; slot < 15; slot++) {
                due("1 wish", x.wish(patrol, slot / 3, slot % 3, 0), 0);
            }
        }
        for (int what = 0; what < 7; what++) {
            due("1 planned " + what, x.planned(what), 0);
        }
        due("1 back", x.back(), CampBook.NONE);
        due("1 ratio", x.ratio(5), 5);
    }

    private static void child() {
        CampBook x = new CampBook();
        due("2 young", x.child(5, 0), CampBook.NUMBER);
        due("2 old", x.child(19, 0), CampBook.NUMBER);
        due("2 patrol -1", x.child(6, -1), CampBook.NUMBER);
        due("2 patrol 4", x.child(6, 4), CampBook.NUMBER);
        due("2 far", x.child(LOW, HIGH), CampBook.NUMBER);
        due("2 none came", x.many(0), 0);
        for (int i = 0; i < 10; i++) {
            due("2 number", x.child(i % 2 == 0 ? 6 : 18, i % 4), i);
        }
        due("2 full", x.child(6, 0), CampBook.FULL);
        due("2 NUMBER ahead of FULL", x.child(5, 0), CampBook.NUMBER);
        due("2 patrol 0", x.many(8), 3);
        due("2 patrol 3", x.many(11), 2);
    }

    private static void change() {
        CampBook x = troop();
        due("3 age", x.change(0, 0, 18), 8);
        due("3 age again", x.change(0, 0, 6), 18);
        due("3 patrol", x.change(1, 1, 3), 1);
        due("3 patrol again", x.change(1, 1, 0), 3);
        due("3 young", x.change(0, 0, 5), CampBook.NUMBER);
        due("3 old", x.change(0, 0, 19), CampBook.NUMBER);
        due("3 no patrol", x.change(0, 1, 4), CampBook.NUMBER);
        due("3 patrol -1", x.change(0, 1, -1), CampBook.NUMBER);
        due("3 no child", x.change(2, 0, 8), CampBook.NUMBER);
        due("3 child -1", x.change(-1, 0, 8), CampBook.NUMBER);
        due("3 what 2", x.change(0, 2, 3), CampBook.NUMBER);
        due("3 what -1", x.change(0, -1, 8), CampBook.NUMBER);
        due("3 still 6", x.change(0, 0, 7), 6);
        due("3 still 0", x.change(1, 1, 1), 0);
    }

    private static void leader() {
        CampBook x = new CampBook();
        for (int i = 0; i < 5; i++) {
            due("4 number", x.leader(), i);
            due("4 no paper", x.lose(i, i % 4), CampBook.NONE);
            due("4 not free", x.free(i, 31), 0);
        }
        due("4 full", x.leader(), CampBook.FULL);
        due("4 many", x.many(1), 5);
    }

    private static void paper() {
        CampBook x = troop();
        x.sign(0, 0, 0, 10);
        due("5 one day", x.paper(0, 0, 10, 10), 1);
        due("5 holds", x.of(0, 5), 1);
        due("5 later", x.paper(0, 0, 11, 999), 1);
        due("5 in place of the other", x.of(0, 5), 0);
        due("5 earlier", x.paper(0, 0, 0, 9), 1);
        due("5 too early", x.of(0, 5), 0);
        due("5 first day with it", x.paper(0, 0, 10, 12), 1);
        due("5 holds first", x.of(0, 5), 1);
        due("5 last day with it", x.paper(0, 0, 8, 10), 1);
        due("5 holds last", x.of(0, 5), 1);
        due("5 no leader", x.paper(1, 0, 0, 1), CampBook.NUMBER);
        due("5 leader -1", x.paper(-1, 0, 0, 1), CampBook.NUMBER);
        due("5 sort 4", x.paper(0, 4, 0, 1), CampBook.NUMBER);
        due("5 sort -1", x.paper(0, -1, 0, 1), CampBook.NUMBER);
        due("5 from -1", x.paper(0, 0, -1, 1), CampBook.NUMBER);
        due("5 to 1000", x.paper(0, 0, 0, 1000), CampBook.NUMBER);
        due("5 from 1000", x.paper(0, 0, 1000, 1000), CampBook.NUMBER);
        due("5 from behind to", x.paper(0, 0, 3, 2), CampBook.NUMBER);
        due("5 refused changes nothing", x.of(0, 5), 1);
    }

    private static void lose() {
        CampBook x = troop();
        x.sign(0, 0, 0, 10);
        due("6 other sort", x.lose(0, 1), 1);
        due("6 still counts", x.of(0, 5), 1);
        due("6 lost", x.lose(0, 0), 1);
        due("6 no more", x.of(0, 5), 0);
        due("6 none", x.lose(0, 0), CampBook.NONE);
        due("6 no leader", x.lose(1, 0), CampBook.NUMBER);
        due("6 leader -1", x.lose(-1, 0), CampBook.NUMBER);
        due("6 sort 4", x.lose(0, 4), CampBook.NUMBER);
        due("6 sort -1", x.lose(0, -1), CampBook.NUMBER);
        x.paper(0, 0, 10, 10);
        due("6 comes again", x.of(0, 5), 1);
    }

    private static void task() {
        CampBook x = new CampBook();
        due("7 leans on itself", x.task(0, 0), CampBook.NUMBER);
        due("7 sort 4", x.task(4, -1), CampBook.NUMBER);
        due("7 sort -1", x.task(-1, -1), CampBook.NUMBER);
        due("7 lean -2", x.task(0, -2), CampBook.NUMBER);
        for (int i = 0; i < 10; i++) {
            due("7 number", x.task(i % 4, i - 1), i);
        }
        due("7 full", x.task(0, -1), CampBook.FULL);
        due("7 NUMBER ahead of FULL", x.task(0, 10), CampBook.NUMBER);
        x.child(6, 0);
        x.leader();
        for (int sort = 0; sort < 4; sort++) {
            x.paper(0, sort, 0, 999);
        }
        for (int i = 9; i >= 0; i--) {
            x.sign(0, i, 0, 7);
        }
        due("7 the chain holds", x.done(0, 9), 7);
        x.strike(9);
        due("7 the first one takes all", x.many(6), 0);
    }

    private static void badge() {
        CampBook x = new CampBook();
        due("8 all 1024", x.badge(1024, 0, 0, 6, -1), CampBook.NUMBER);
        due("8 all -1", x.badge(-1, 0, 0, 6, -1), CampBook.NUMBER);
        due("8 some 1024", x.badge(0, 1024, 0, 6, -1), CampBook.NUMBER);
        due("8 some -1", x.badge(0, -1, 0, 6, -1), CampBook.NUMBER);
        due("8 many 11", x.badge(0, 0, 11, 6, -1), CampBook.NUMBER);
        due("8 many -1", x.badge(0, 0, -1, 6, -1), CampBook.NUMBER);
        due("8 age 5", x.badge(0, 0, 0, 5, -1), CampBook.NUMBER);
        due("8 age 19", x.badge(0, 0, 0, 19, -1), CampBook.NUMBER);
        due("8 badge itself", x.badge(0, 0, 0, 6, 0), CampBook.NUMBER);
        due("8 badge -2", x.badge(0, 0, 0, 6, -2), CampBook.NUMBER);
        due("8 first", x.badge(1023, 1023, 10, 18, -1), 0);
        for (int i = 1; i < 8; i++) {
            due("8 number", x.badge(0, 0, 0, 6, i - 1), i);
        }
        due("8 full", x.badge(0, 0, 0, 6, 7), CampBook.FULL);
        due("8 NUMBER ahead of FULL", x.badge(0, 0, 0, 6, 8), CampBook.NUMBER);
        due("8 many", x.many(4), 8);
    }

    private static void sign() {
        CampBook x = troop();
        due("9 no child", x.sign(2, 0, 0, 0), CampBook.NUMBER);
        due("9 child -1", x.sign(-1, 0, 0, 0), CampBook.NUMBER);
        due("9 no task", x.sign(0, 3, 0, 0), CampBook.NUMBER);
        due("9 task -1", x.sign(0, -1, 0, 0), CampBook.NUMBER);
        due("9 no leader", x.sign(0, 0, 1, 0), CampBook.NUMBER);
        due("9 leader -1", x.sign(0, 0, -1, 0), CampBook.NUMBER);
        due("9 day -1", x.sign(0, 0, 0, -1), CampBook.NUMBER);
        due("9 day 1000", x.sign(0, 0, 0, 1000), CampBook.NUMBER);
        for (int i = 0; i < 80; i++) {
            due("9 number", x.sign(i % 2, i % 3, 0, i == 79 ? 999 : i), i);
        }
        due("9 full", x.sign(0, 0, 0, 0), CampBook.FULL);
        due("9 NUMBER ahead of FULL", x.sign(0, 0, 0, 1000), CampBook.NUMBER);
        due("9 many", x.many(3), 80);
    }

    private static void strike() {
        CampBook x = troop();
        due("10 none yet", x.strike(0), CampBook.NUMBER);
        x.sign(0, 0, 0, 3);
        x.sign(0, 1, 0, 3);
        x.sign(0, 0, 0, 5);
        x.sign(1, 0, 0, 1);
        due("10 -1", x.strike(-1), CampBook.NUMBER);
        due("10 4", x.strike(4), CampBook.NUMBER);
        due("10 struck", x.strike(0), 1);
        due("10 twice", x.strike(0), CampBook.TWICE);
        due("10 what leaned on it", x.of(1, 5), 0);
        due("10 a later one stands", x.done(0, 0), 5);
        due("10 another child's stands", x.done(1, 0), 1);
    }

    private static void of() {
        CampBook x = troop();
        x.leader();
        x.sign(0, 0, 0, 40);
        x.sign(1, 2, 1, 321);
        int[] want = {1, 2, 1, 321, 0, 0};
        for (int what = 0; what < 6; what++) {
            due("11 what " + what, x.of(1, what), want[what]);
        }
        due("11 counts", x.of(0, 5), 1);
        x.strike(0);
        due("11 struck", x.of(0, 4), 1);
        due("11 struck does not count", x.of(0, 5), 0);
        due("11 day stays", x.of(0, 3), 40);
        due("11 what 6", x.of(0, 6), CampBook.NUMBER);
        due("11 what -1", x.of(0, -1), CampBook.NUMBER);
        due("11 none such", x.of(2, 0), CampBook.NUMBER);
        due("11 -1", x.of(-1, 0), CampBook.NUMBER);
    }

    private static void done() {
        CampBook x = troop();
        due("12 no child", x.done(2, 0), CampBook.NUMBER);
        due("12 child -1", x.done(-1, 0), CampBook.NUMBER);
        due("12 no task", x.done(0, 3), CampBook.NUMBER);
        due("12 task -1", x.done(0, -1), CampBook.NUMBER);
        due("12 not done", x.done(0, 0), CampBook.NONE);
        x.sign(0, 1, 0, 9);
        due("12 lean not done", x.done(0, 1), CampBook.NONE);
        x.sign(1, 0, 0, 2);
        due("12 lean done by another", x.done(0, 1), CampBook.NONE);
        x.sign(0, 0, 0, 10);
        due("12 lean done later", x.done(0, 1), CampBook.NONE);
        x.sign(0, 0, 0, 9);
        due("12 lean done the same day", x.done(0, 1), 9);
        due("12 earliest", x.done(0, 0), 9);
        x.sign(0, 0, 0, 0);
        due("12 day 0", x.done(0, 0), 0);
        x.sign(1, 1, 0, 999);
        due("12 day 999", x.done(1, 1), 999);
        x.paper(0, 0, 9, 9);
        due("12 by the paper", x.done(0, 0), 9);
        x.paper(0, 1, 10, 999);
        due("12 paper of the own sort", x.done(0, 1), CampBook.NONE);
    }

    private static void held() {
        CampBook x = troop();
        x.badge(3, 0, 0, 8, -1);
        x.badge(0, 7, 2, 6, -1);
        x.badge(0, 0, 0, 6, 0);
        x.badge(0, 0, 0, 9, -1);
        x.badge(0, 0, 0, 6, 3);
        x.badge(0, 3, 3, 6, -1);
        x.badge(1, 1, 1, 6, -1);
        due("13 no child", x.held(2, 0), CampBook.NUMBER);
        due("13 child -1", x.held(-1, 0), CampBook.NUMBER);
        due("13 no badge", x.held(0, 7), CampBook.NUMBER);
        due("13 badge -1", x.held(0, -1), CampBook.NUMBER);
        x.sign(0, 0, 0, 4);
        due("13 one of ALL", x.held(0, 0), CampBook.NONE);
        due("13 one of SOME", x.held(0, 1), CampBook.NONE);
        x.sign(0, 1, 0, 6);
        due("13 ALL", x.held(0, 0), 6);
        due("13 SOME", x.held(0, 1), 6);
        x.sign(0, 2, 0, 8);
        due("13 more of SOME", x.held(0, 1), 6);
        due("13 from the other", x.held(0, 2), 6);
        due("13 too young", x.held(0, 3), CampBook.NONE);
        due("13 too young for the other", x.held(0, 4), CampBook.NONE);
        due("13 old enough", x.held(1, 3), 0);
        due("13 asks for the other alone", x.held(1, 4), 0);
        due("13 more than there are", x.held(0, 5), CampBook.NONE);
        due("13 in ALL and in SOME", x.held(0, 6), 4);
        x.strike(0);
        due("13 struck", x.held(0, 1), CampBook.NONE);
    }

    private static void lacks() {
        CampBook x = troop();
        x.badge(0, 0, 0, 10, -1);
        x.badge(519, 7, 2, 18, 0);
        x.sign(0, 0, 0, 4);
        due("14 ALL", x.lacks(0, 1, 0), 518);
        due("14 the whole of ALL", x.lacks(1, 1, 0), 519);
        due("14 SOME", x.lacks(0, 1, 1), 1);
        due("14 AGE", x.lacks(0, 1, 2), 10);
        due("14 other", x.lacks(0, 1, 3), 1);
        due("14 other held", x.lacks(1, 1, 3), 0);
        due("14 no other", x.lacks(0, 0, 3), 0);
        due("14 AGE at least 0", x.lacks(1, 0, 2), 0);
        x.sign(0, 1, 0, 4);
        x.sign(0, 2, 0, 999);
        due("14 SOME at least 0", x.lacks(0, 1, 1), 0);
        due("14 ALL that there aren't", x.lacks(0, 1, 0), 512);
        due("14 what 4", x.lacks(0, 1, 4), CampBook.NUMBER);
        due("14 what -1", x.lacks(0, 1, -1), CampBook.NUMBER);
        due("14 no child", x.lacks(2, 1, 0), CampBook.NUMBER);
        due("14 child -1", x.lacks(-1, 1, 0), CampBook.NUMBER);
        due("14 no badge", x.lacks(0, 2, 0), CampBook.NUMBER);
        due("14 badge -1", x.lacks(0, -1, 0), CampBook.NUMBER);
    }

    private static void badges() {
        CampBook x = troop();
        due("15 none", x.badges(0, 999), 0);
        x.badge(0, 0, 0, 6, -1);
        x.badge(1, 0, 0, 6, -1);
        x.badge(0, 0, 0, 9, -1);
        x.sign(0, 0, 0, 999);
        due("15 day 0", x.badges(0, 0), 1);
        due("15 the day before", x.badges(0, 998), 1);
        due("15 that day", x.badges(0, 999), 2);
        due("15 older", x.badges(1, 0), 2);
        due("15 no child", x.badges(2, 0), CampBook.NUMBER);
        due("15 child -1", x.badges(-1, 0), CampBook.NUMBER);
        due("15 day -1", x.badges(0, -1), CampBook.NUMBER);
        due("15 day 1000", x.badges(0, 1000), CampBook.NUMBER);
    }

    private static void site() {
        CampBook x = new CampBook();
        due("16 no beds", x.site(0, true), CampBook.NUMBER);
        due("16 beds 11", x.site(11, false), CampBook.NUMBER);
        due("16 beds -1", x.site(-1, false), CampBook.NUMBER);
        due("16 first", x.site(1, true), 0);
        due("16 second", x.site(10, false), 1);
        due("16 third", x.site(10, false), 2);
        due("16 full", x.site(10, false), CampBook.FULL);
        due("16 NUMBER ahead of FULL", x.site(0, false), CampBook.NUMBER);
        due("16 many", x.many(5), 3);
    }

    private static void wish() {
        CampBook x = new CampBook();
        due("17 first", x.wish(3, 4, 2, 9), 0);
        due("17 again", x.wish(3, 4, 2, 0), 9);
        due("17 to 0", x.wish(3, 4, 2, 1), 0);
        due("17 another", x.wish(3, 4, 1, 1), 0);
        due("17 patrol 4", x.wish(4, 0, 0, 1), CampBook.NUMBER);
        due("17 patrol -1", x.wish(-1, 0, 0, 1), CampBook.NUMBER);
        due("17 weekend 5", x.wish(0, 5, 0, 1), CampBook.NUMBER);
        due("17 weekend -1", x.wish(0, -1, 0, 1), CampBook.NUMBER);
        due("17 site 3", x.wish(0, 0, 3, 1), CampBook.NUMBER);
        due("17 site -1", x.wish(0, 1, -1, 1), CampBook.NUMBER);
        due("17 wishes 10", x.wish(3, 4, 2, 10), CampBook.NUMBER);
        due("17 wishes -1", x.wish(3, 4, 2, -1), CampBook.NUMBER);
        due("17 stays", x.wish(3, 4, 2, 2), 1);
        x.child(6, 3);
        x.leader();
        x.free(0, 31);
        x.site(1, false);
        x.site(1, false);
        due("17 waits for its site", x.plan(3), 13);
        x.site(1, false);
        due("17 its site came", x.plan(3), 14);
    }

    private static void free() {
        CampBook x = camp(new int[] {1}, false);
        x.wish(0, 2, 0, 3);
        due("18 was all", x.free(0, 4), 31);
        due("18 on weekend 2", x.plan(0), 6);
        due("18 was 4", x.free(0, 27), 4);
        due("18 not on weekend 2", x.plan(0), CampBook.NONE);
        due("18 bits 32", x.free(0, 32), CampBook.NUMBER);
        due("18 bits -1", x.free(0, -1), CampBook.NUMBER);
        due("18 no leader", x.free(1, 0), CampBook.NUMBER);
        due("18 leader -1", x.free(-1, 0), CampBook.NUMBER);
        due("18 stays", x.free(0, 0), 27);
    }

    private static void ratio() {
        CampBook x = camp(new int[] {6}, false);
        x.wish(0, 0, 0, 3);
        due("19 too many for 5", x.plan(0), CampBook.NONE);
        due("19 was 5", x.ratio(6), 5);
        due("19 6 are enough", x.plan(0), 0);
        due("19 was 6", x.ratio(10), 6);
        due("19 ratio 0", x.ratio(0), CampBook.NUMBER);
        due("19 ratio 11", x.ratio(11), CampBook.NUMBER);
        due("19 ratio -1", x.ratio(-1), CampBook.NUMBER);
        due("19 was 10", x.ratio(1), 10);
        due("19 was 1", x.ratio(3), 1);
        x.leader();
        due("19 one is not free", x.plan(0), CampBook.NONE);
        x.free(1, 1);
        due("19 two are", x.plan(0), 0);
    }

    private static void planAlone() {
        CampBook x = camp(new int[] {2, 0, 0, 1}, false);
        due("20 patrol 4", x.plan(4), CampBook.NUMBER);
        due("20 patrol -1", x.plan(-1), CampBook.NUMBER);
        x.wish(1, 0, 0, 9);
        due("20 no children", x.plan(1), CampBook.NONE);
        x.wish(0, 3, 0, 4);
        x.wish(0, 1, 0, 4);
        due("20 the lesser slot", x.plan(0), 3);
        x.wish(3, 1, 0, 1);
        due("20 makes way", x.plan(0), 9);
        due("20 and gains", x.plan(3), 3);
        x.wish(3, 1, 0, 0);
        due("20 for nothing no patrol", x.plan(3), CampBook.NONE);
        x.wish(0, 1, 0, 3);
        due("20 the greater wish", x.plan(0), 9);
    }

    private static void planFewest() {
        CampBook x = camp(new int[] {3, 1, 2}, false);
        x.wish(0, 0, 0, 4);
        x.wish(1, 0, 0, 2);
        x.wish(2, 0, 0, 4);
        due("20 the first patrol ahead of none", x.plan(0), 0);
        due("20 none", x.plan(2), CampBook.NONE);
        x.ratio(3);
        x.site(2, false);
        x.wish(1, 0, 1, 2);
        x.wish(2, 0, 1, 2);
        due("20 one for 4 against two for 4 or more", x.planned(0), 6);
        due("20 patrol 1 beside patrol 2", x.plan(1), 1);
        due("20 patrol 2", x.plan(2), 0);
        x.wish(2, 0, 0, 2);
        due("20 as much by one", x.planned(0), 4);
        due("20 fewest patrols", x.planned(1), 1);
        due("20 patrol 0 alone", x.plan(0), 0);
        CampBook last = camp(new int[] {1, 1, 2}, false);
        last.ratio(2);
        last.site(1, false);
        last.wish(0, 0, 0, 2);
        last.wish(1, 0, 1, 2);
        last.wish(2, 0, 0, 4);
        due("20 the last alone ahead of two", last.plan(2), 0);
        due("20 not the first", last.plan(0), CampBook.NONE);
        due("20 one is given something", last.planned(1), 1);
        last.wish(1, 0, 1, 3);
        due("20 two for more", last.plan(1), 1);
        due("20 two are given something", last.planned(1), 2);
    }

    /** Every number of things at its greatest, so that the last of each is used. */
    private static void fullBook() {
        CampBook x = new CampBook();
        for (int i = 0; i < 10; i++) {
            x.child(18, i < 4 ? i : 3);
            x.task(3, -1);
            x.badge(512, 512, 1, 18, Math.min(i, 8) - 1);
            x.leader();
            x.free(i, 16);
            x.paper(i, 3, 999, 999);
            x.site(10, true);
        }
        for (int i = 0; i < 80; i++) {
            x.sign(9, i / 8, 4, 999);
        }
        int[] want = {10, 5, 10, 80, 8, 3, 80, 8, 1, 1, 1, 7};
        for (int what = 0; what < 12; what++) {
            due("22 full, what " + what, x.many(what), want[what]);
        }
        due("11 full", x.of(79, 1), 9);
        due("12 full", x.done(9, 9), 999);
        due("13 full", x.held(9, 7), 999);
        due("14 full", x.lacks(8, 7, 0), 512);
        due("15 full", x.badges(9, 999), 8);
        for (int patrol = 0; patrol < 4; patrol++) {
            x.wish(patrol, 4, 2, 9);
            x.wish(patrol, 4, 1, 8);
            x.wish(patrol, 4, 0, 7);
        }
        int[] slots = {12, 13, 14, CampBook.NONE};
        for (int patrol = 0; patrol < 4; patrol++) {
            due("20 full, patrol " + patrol, x.plan(patrol), slots[patrol]);
        }
        due("21 full, worth", x.planned(0), 24);
        due("21 full, away", x.planned(6), 3);
        x.wish(3, 0, 0, 9);
        due("20 no leader is free", x.plan(3), CampBook.NONE);
    }

    private static void planFollowsChildren() {
        CampBook x = new CampBook();
        x.leader();
        x.free(0, 31);
        x.site(1, false);
        x.wish(2, 0, 0, 1);
        due("20 none came", x.plan(2), CampBook.NONE);
        x.child(6, 2);
        due("20 a child came", x.plan(2), 0);
        x.child(6, 2);
        due("20 too many came", x.plan(2), CampBook.NONE);
        x.change(0, 1, 3);
        due("20 one went", x.plan(2), 0);
    }

    private static void planWoods() {
        CampBook x = camp(new int[] {1, 1, 1}, true);
        for (int patrol = 0; patrol < 3; patrol++) {
            x.wish(patrol, patrol, 0, 5);
        }
        due("20 a wood rests", x.planned(0), 10);
        due("20 weekend 0", x.plan(0), 0);
        due("20 not weekend 1", x.plan(1), CampBook.NONE);
        due("20 weekend 2", x.plan(2), 6);
        x.site(1, true);
        x.wish(1, 1, 1, 5);
        due("20 another wood may be next", x.plan(1), 4);
        CampBook hut = camp(new int[] {1, 1}, false);
        hut.wish(0, 4, 0, 5);
        hut.wish(1, 3, 0, 5);
        due("20 a hut needs no rest", hut.planned(0), 10);
        CampBook beds = new CampBook();
        beds.child(6, 0);
        beds.child(6, 0);
        beds.leader();
        beds.free(0, 31);
        beds.site(1, false);
        beds.wish(0, 0, 0, 9);
        due("20 too few beds", beds.plan(0), CampBook.NONE);
        beds.change(1, 1, 1);
        due("20 beds enough", beds.plan(0), 0);
    }

    private static void planned() {
        CampBook x = camp(new int[] {2, 3, 1}, false);
        x.site(3, true);
        x.wish(0, 2, 0, 9);
        x.wish(1, 2, 1, 8);
        x.wish(2, 4, 0, 7);
        int[] want = {24, 3, 0, 0, 5, 0, 1};
        for (int what = 0; what < 7; what++) {
            due("21 what " + what, x.planned(what), want[what]);
        }
        due("21 what 7", x.planned(7), CampBook.NUMBER);
        due("21 what -1", x.planned(-1), CampBook.NUMBER);
        x.ratio(4);
        int[] fewer = {16, 2, 0, 0, 2, 0, 1};
        for (int what = 0; what < 7; what++) {
            due("21 fewer, what " + what, x.planned(what), fewer[what]);
        }
    }

    private static void many() {
        CampBook x = troop();
        x.child(18, 3);
        x.site(1, true);
        x.badge(1, 0, 0, 6, -1);
        x.badge(0, 0, 0, 12, -1);
        x.sign(0, 0, 0, 1);
        x.sign(1, 0, 0, 1);
        x.sign(0, 1, 0, 0);
        x.sign(0, 0, 0, 5);
        x.strike(1);
        int[] want = {3, 1, 3, 4, 2, 1, 2, 3, 1, 1, 0, 1};
        for (int what = 0; what < 12; what++) {
            due("22 what " + what, x.many(what), want[what]);
        }
        due("22 what 12", x.many(12), CampBook.NUMBER);
        due("22 what -1", x.many(-1), CampBook.NUMBER);
        due("22 far", x.many(HIGH), CampBook.NUMBER);
        due("22 far below", x.many(LOW), CampBook.NUMBER);
    }

    /** Changes everything that may be changed. */
    private static void disturb(CampBook x) {
        x.change(0, 0, 18);
        x.change(0, 1, 2);
        x.child(7, 0);
        x.leader();
        x.paper(0, 0, 61, 62);
        x.paper(0, 0, 0, 1);
        x.paper(1, 1, 0, 999);
        x.free(0, 1);
        x.free(1, 31);
        x.task(3, 0);
        x.badge(0, 0, 0, 6, -1);
        x.strike(0);
        x.sign(0, 1, 0, 70);
        x.site(9, true);
        x.wish(0, 0, 0, 0);
        due("24 another plan", x.plan(0), CampBook.NONE);
    }

    private static void checkKept(String which, CampBook x) {
        int[] want = {2, 1, 3, 1, 1, 1, 1, 1, 1, 1, 0, 0};
        for (int what = 0; what < 12; what++) {
            due(which + " many " + what, x.many(what), want[what]);
        }
        due(which + " plan", x.plan(0), 0);
        due(which + " done", x.done(0, 0), 60);
        due(which + " held", x.held(0, 0), 60);
        due(which + " struck", x.of(0, 4), 0);
        due(which + " lacks age", x.lacks(0, 0, 2), 0);
    }

    private static void keepAndBack() {
        CampBook x = troop();
        due("24 nothing is kept", x.back(), CampBook.NONE);
        x.badge(1, 0, 0, 6, -1);
        x.sign(0, 0, 0, 60);
        x.free(0, 31);
        x.site(1, false);
        x.wish(0, 0, 0, 6);
        due("23 keep", x.keep(), 1);
        checkKept("23 kept", x);
        disturb(x);
        due("23 disturbed", x.many(0), 3);
        due("24 back", x.back(), 1);
        checkKept("24 back", x);
        due("24 age", x.change(0, 0, 9), 8);
        disturb(x);
        due("24 back again", x.back(), 1);
        checkKept("24 it stays", x);
        due("24 a new leader", x.leader(), 1);
        due("24 has no papers", x.lose(1, 1), CampBook.NONE);
        due("24 is not free", x.free(1, 3), 0);
        due("24 free", x.free(0, 30), 31);
        due("24 keep later", x.keep(), 1);
        x.free(1, 0);
        x.back();
        due("24 the latest", x.free(1, 0), 3);
        due("24 the latest too", x.free(0, 0), 30);
    }

    private static void keepNotRatio() {
        CampBook x = camp(new int[] {3}, false);
        x.wish(0, 1, 0, 2);
        x.ratio(3);
        x.keep();
        x.ratio(2);
        due("23 too many for 2", x.plan(0), CampBook.NONE);
        x.back();
        due("23 ratio is not kept", x.plan(0), CampBook.NONE);
        due("23 ratio stays", x.ratio(10), 2);
    }

    public static void main(String[] args) {
        newObject();
        child();
        change();
        leader();
        paper();
        lose();
        task();
        badge();
        sign();
        strike();
        of();
        done();
        held();
        lacks();
        badges();
        site();
        wish();
        free();
        ratio();
        planAlone();
        planFewest();
        planFollowsChildren();
        planWoods();
        fullBook();
        planned();
        many();
        keepAndBack();
        keepNotRatio();
        System.out.println(wrong == 0 ? "all answers are as due" : wrong + " answers are not as due");
        if (wrong != 0) {
            System.exit(1);
        }
    }
}
