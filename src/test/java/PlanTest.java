import java.util.Random;

/**
 * THE PLAN of many books (from fixed seeds) against the best of all plans that there are, each tried in full. Many
 * books have few different wishes and scarce leaders and beds, so that ties of worth and of number are common.
 */
public final class PlanTest {
    private static final int BOOKS = 3000;
    private static final int NOTHING = 15;
    private static int wrong = 0;

    private final CampBook book = new CampBook();
    private final int[] heads = new int[4];
    private final int[] free = new int[5];
    private final int[] beds = new int[3];
    private final boolean[] woods = new boolean[3];
    private final int[][] wishes = new int[4][15];
    private int ratio;
    private int[] best;
    private int bestWorth = -1;
    private int bestGiven;

    private PlanTest(Random random) {
        int children = random.nextInt(8) == 0 ? random.nextInt(3) : 3 + random.nextInt(8);
        for (int i = 0; i < children; i++) {
            int patrol = random.nextInt(4);
            book.child(6 + i, patrol);
            heads[patrol]++;
        }
        int leaders = random.nextInt(16) == 0 ? 0 : 1 + random.nextInt(5);
        for (int leader = 0; leader < leaders; leader++) {
            int bits = random.nextInt(3) == 0 ? 31 : random.nextInt(32);
            book.leader();
            book.free(leader, bits);
            for (int weekend = 0; weekend < 5; weekend++) {
                free[weekend] += bits >> weekend & 1;
            }
        }
        // Beds of 0 stand for a site that hasn't come.
        int sites = random.nextInt(8) == 0 ? random.nextInt(3) : 3;
        for (int site = 0; site < sites; site++) {
            beds[site] = 1 + random.nextInt(random.nextBoolean() ? 10 : 4);
            woods[site] = random.nextBoolean();
            book.site(beds[site], woods[site]);
        }
        makeWishes(random);
        ratio = 1 + random.nextInt(random.nextBoolean() ? 10 : 4);
        book.ratio(ratio);
    }

    private void makeWishes(Random random) {
        int most = 1 + random.nextInt(random.nextBoolean() ? 2 : 9);
        int share = 1 + random.nextInt(4);
        // A crowd on the first weekends, where one patrol may stand against two for the same worth.
        int crowded = random.nextBoolean() ? 15 : 3 + random.nextInt(4);
        for (int patrol = 0; patrol < 4; patrol++) {
            for (int slot = 0; slot < 15; slot++) {
                int v = slot < crowded && random.nextInt(4) < share ? random.nextInt(most + 1) : 0;
                wishes[patrol][slot] = v;
                book.wish(patrol, slot / 3, slot % 3, v);
            }
        }
    }

    private boolean isAllowed(int[] plan) {
        int[] away = new int[5];
        for (int p = 0; p < 4; p++) {
            if (plan[p] == NOTHING) {
                continue;
            }
            if (heads[p] == 0 || heads[p] > beds[plan[p] % 3]) {
                return false;
            }
            away[plan[p] / 3] += heads[p];
            for (int q = 0; q < p; q++) {
                if (isAgainst(plan[p], plan[q])) {
                    return false;
                }
            }
        }
        for (int weekend = 0; weekend < 5; weekend++) {
            if (away[weekend] > ratio * free[weekend]) {
                return false;
            }
        }
        return true;
    }

    private boolean isAgainst(int slot, int other) {
        if (other == NOTHING || slot % 3 != other % 3) {
            return false;
        }
        int apart = Math.abs(slot / 3 - other / 3);
        return apart == 0 || (apart == 1 && woods[slot % 3]);
    }

    /** The plans come in the document's order, so that of those alike the first one stays. */
    private void tryAll() {
        for (int number = 0; number < 1 << 16; number++) {
            int[] plan = {number >> 12, number >> 8 & 15, number >> 4 & 15, number & 15};
            int worth = 0;
            int given = 0;
            for (int p = 0; p < 4; p++) {
                worth += plan[p] == NOTHING ? 0 : wishes[p][plan[p]];
                given += plan[p] == NOTHING ? 0 : 1;
            }
            boolean better = worth > bestWorth || (worth == bestWorth && given < bestGiven);
            if (better && isAllowed(plan)) {
                best = plan;
                bestWorth = worth;
                bestGiven = given;
            }
        }
    }

    private static void due(String what, int got, int want) {
        if (got != want) {
            wrong++;
            System.out.println(what + " answered " + got + ", due is " + want);
        }
    }

    private void compare(int seed) {
        int[] away = new int[5];
        for (int p = 0; p < 4; p++) {
            boolean nothing = best[p] == NOTHING;
            due("20 book " + seed + ", plan " + p, book.plan(p), nothing ? CampBook.NONE : best[p]);
            if (!nothing) {
                away[best[p] / 3] += heads[p];
            }
        }
        due("21 book " + seed + ", worth", book.planned(0), bestWorth);
        due("21 book " + seed + ", given", book.planned(1), bestGiven);
        for (int weekend = 0; weekend < 5; weekend++) {
            due("21 book " + seed + ", away " + weekend, book.planned(2 + weekend), away[weekend]);
        }
    }

    public static void main(String[] args) {
        for (int seed = 0; seed < BOOKS; seed++) {
            PlanTest test = new PlanTest(new Random(seed * 7919L + 13));
            test.tryAll();
            test.compare(seed);
        }
        System.out.println(wrong == 0 ? "all plans are as due" : wrong + " answers are not as due");
        if (wrong != 0) {
            System.exit(1);
        }
    }
}
