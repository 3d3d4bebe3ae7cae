import java.util.Arrays;

/** A book of camps: signed tasks, badges, and patrols sent to sites by weekends. */
public final class CampBook {
    public static final int NUMBER = -1;
    public static final int FULL = -2;
    public static final int NONE = -3;
    public static final int TWICE = -4;

    private static final int CHILDREN = 10;
    private static final int LEADERS = 5;
    private static final int TASKS = 10;
    private static final int SIGNATURES = 80;
    private static final int BADGES = 8;
    private static final int SITES = 3;

    private static final int PATROLS = 4;
    private static final int SORTS = 4;
    private static final int WEEKENDS = 5;
    private static final int SLOTS = WEEKENDS * SITES;

    private static final int LAST_DAY = 999;
    // Behind every day, so that the later of two days is NEVER if one of them is.
    private static final int NEVER = LAST_DAY + 1;
    private static final int YOUNGEST = 6;
    private static final int OLDEST = 18;
    private static final int TASK_BITS = (1 << TASKS) - 1;
    private static final int WEEKEND_BITS = (1 << WEEKENDS) - 1;
    private static final int MOST_BEDS = 10;
    private static final int MOST_WISHES = 9;
    private static final int MOST_RATIO = 10;
    private static final int FIRST_RATIO = 5;

    private static final int NO_PAPER = -1;
    private static final int NO_OTHER = -1;
    private static final int NOTHING = -1;

    private final Book book;
    private final Book kept;
    private final Days days;
    private final Planner planner;
    private boolean isKept;
    private boolean isPlanOld;
    private int ratioNow;

    public CampBook() {
        book = new Book();
        kept = new Book();
        days = new Days();
        planner = new Planner();
        isKept = false;
        isPlanOld = true;
        ratioNow = FIRST_RATIO;
    }

    // ---- who and what

    public int child(int age, int patrol) {
        if (!isAge(age) || !isBelow(patrol, PATROLS)) {
            return NUMBER;
        }
        People people = book.people;
        if (people.children >= CHILDREN) {
            return FULL;
        }
        int number = people.children;
        people.ages[number] = age;
        people.patrols[number] = patrol;
        people.children = number + 1;
        isPlanOld = true;
        return number;
    }

    public int change(int child, int what, int v) {
        if (!isChild(child)) {
            return NUMBER;
        }
        if (what == 0 && isAge(v)) {
            return replace(book.people.ages, child, v);
        }
        if (what == 1 && isBelow(v, PATROLS)) {
            isPlanOld = true;
            return replace(book.people.patrols, child, v);
        }
        return NUMBER;
    }

    public int leader() {
        People people = book.people;
        if (people.leaders >= LEADERS) {
            return FULL;
        }
        int number = people.leaders;
        people.leaders = number + 1;
        return number;
    }

    public int paper(int leader, int sort, int from, int to) {
        if (!isLeader(leader) || !isBelow(sort, SORTS) || !isDay(from) || !isDay(to) || from > to) {
            return NUMBER;
        }
        int cell = leader * SORTS + sort;
        book.people.paperFrom[cell] = from;
        book.people.paperTo[cell] = to;
        return 1;
    }

    public int lose(int leader, int sort) {
        if (!isLeader(leader) || !isBelow(sort, SORTS)) {
            return NUMBER;
        }
        int cell = leader * SORTS + sort;
        if (book.people.paperFrom[cell] == NO_PAPER) {
            return NONE;
        }
        book.people.paperFrom[cell] = NO_PAPER;
        book.people.paperTo[cell] = NO_PAPER;
        return 1;
    }

    public int task(int sort, int lean) {
        if (!isBelow(sort, SORTS) || (lean != NO_OTHER && !isTask(lean))) {
            return NUMBER;
        }
        Texts texts = book.texts;
        if (texts.tasks >= TASKS) {
            return FULL;
        }
        int number = texts.tasks;
        texts.sorts[number] = sort;
        texts.leans[number] = lean;
        texts.tasks = number + 1;
        return number;
    }

    public int badge(int all, int some, int many, int age, int badge) {
        if (!isUpTo(all, TASK_BITS) || !isUpTo(some, TASK_BITS) || !isUpTo(many, TASKS)) {
            return NUMBER;
        }
        if (!isAge(age) || (badge != NO_OTHER && !isBadge(badge))) {
            return NUMBER;
        }
        Texts texts = book.texts;
        if (texts.badges >= BADGES) {
            return FULL;
        }
        int number = texts.badges;
        texts.alls[number] = all;
        texts.somes[number] = some;
        texts.manys[number] = many;
        texts.ages[number] = age;
        texts.others[number] = badge;
        texts.badges = number + 1;
        return number;
    }

    // ---- signatures

    public int sign(int child, int task, int leader, int day) {
        if (!isChild(child) || !isTask(task) || !isLeader(leader) || !isDay(day)) {
            return NUMBER;
        }
        Signatures signatures = book.signatures;
        if (signatures.size >= SIGNATURES) {
            return FULL;
        }
        int number = signatures.size;
        signatures.children[number] = child;
        signatures.tasks[number] = task;
        signatures.leaders[number] = leader;
        signatures.days[number] = day;
        signatures.struck[number] = false;
        signatures.size = number + 1;
        return number;
    }

    public int strike(int signature) {
        if (!isSignature(signature)) {
            return NUMBER;
        }
        if (book.signatures.struck[signature]) {
            return TWICE;
        }
        book.signatures.struck[signature] = true;
        return 1;
    }

    public int of(int signature, int what) {
        if (!isSignature(signature)) {
            return NUMBER;
        }
        Signatures signatures = book.signatures;
        switch (what) {
            case 0:
                return signatures.children[signature];
            case 1:
                return signatures.tasks[signature];
            case 2:
                return signatures.leaders[signature];
            case 3:
                return signatures.days[signature];
            case 4:
                return signatures.struck[signature] ? 1 : 0;
            case 5:
                days.readDone(book);
                return days.counts(book, signature) ? 1 : 0;
            default:
                return NUMBER;
        }
    }

    public int done(int child, int task) {
        if (!isChild(child) || !isTask(task)) {
            return NUMBER;
        }
        days.readDone(book);
        return dayOrNone(days.doneFrom(child, task));
    }

    public int held(int child, int badge) {
        if (!isChild(child) || !isBadge(badge)) {
            return NUMBER;
        }
        days.readDone(book);
        days.readHeld(book, child);
        return dayOrNone(days.held[badge]);
    }

    public int lacks(int child, int badge, int what) {
        if (!isChild(child) || !isBadge(badge)) {
            return NUMBER;
        }
        days.readDone(book);
        Texts texts = book.texts;
        switch (what) {
            case 0:
                return days.bitsNotDone(child, texts.alls[badge]);
            case 1:
                return Math.max(0, texts.manys[badge] - days.doneBy(child, texts.somes[badge], LAST_DAY));
            case 2:
                return Math.max(0, texts.ages[badge] - book.people.ages[child]);
            case 3:
                days.readHeld(book, child);
                return days.otherFrom(texts.others[badge]) == NEVER ? 1 : 0;
            default:
                return NUMBER;
        }
    }

    public int badges(int child, int day) {
        if (!isChild(child) || !isDay(day)) {
            return NUMBER;
        }
        days.readDone(book);
        days.readHeld(book, child);
        return days.countHeld(book, day);
    }

    // ---- weekends

    public int site(int beds, boolean wood) {
        if (beds < 1 || beds > MOST_BEDS) {
            return NUMBER;
        }
        Camps camps = book.camps;
        if (camps.sites >= SITES) {
            return FULL;
        }
        int number = camps.sites;
        camps.beds[number] = beds;
        camps.woods[number] = wood;
        camps.sites = number + 1;
        isPlanOld = true;
        return number;
    }

    public int wish(int patrol, int weekend, int site, int v) {
        if (!isBelow(patrol, PATROLS) || !isBelow(weekend, WEEKENDS)) {
            return NUMBER;
        }
        if (!isBelow(site, SITES) || !isUpTo(v, MOST_WISHES)) {
            return NUMBER;
        }
        isPlanOld = true;
        return replace(book.camps.wishes, patrol * SLOTS + weekend * SITES + site, v);
    }

    public int free(int leader, int bits) {
        if (!isLeader(leader) || !isUpTo(bits, WEEKEND_BITS)) {
            return NUMBER;
        }
        isPlanOld = true;
        return replace(book.people.weekends, leader, bits);
    }

    public int ratio(int v) {
        if (v < 1 || v > MOST_RATIO) {
            return NUMBER;
        }
        int was = ratioNow;
        ratioNow = v;
        isPlanOld = true;
        return was;
    }

    public int plan(int patrol) {
        if (!isBelow(patrol, PATROLS)) {
            return NUMBER;
        }
        makePlan();
        int slot = planner.best[patrol];
        return slot == NOTHING ? NONE : slot;
    }

    public int planned(int what) {
        if (!isBelow(what, 2 + WEEKENDS)) {
            return NUMBER;
        }
        makePlan();
        switch (what) {
            case 0:
                return planner.bestWorth;
            case 1:
                return planner.bestGiven;
            default:
                return planner.countAway(what - 2);
        }
    }

    public int many(int what) {
        switch (what) {
            case 0:
                return book.people.children;
            case 1:
                return book.people.leaders;
            case 2:
                return book.texts.tasks;
            case 3:
                return book.signatures.size;
            case 4:
                return book.texts.badges;
            case 5:
                return book.camps.sites;
            case 6:
                days.readDone(book);
                return days.countCounting(book);
            case 7:
                days.readDone(book);
                return days.countHeldOfAll(book);
            default:
                return isBelow(what, 8 + PATROLS) ? book.people.countPatrol(what - 8) : NUMBER;
        }
    }

    // ---- kept

    public int keep() {
        kept.become(book);
        isKept = true;
        return 1;
    }

    public int back() {
        if (!isKept) {
            return NONE;
        }
        book.become(kept);
        isPlanOld = true;
        return 1;
    }

    private void makePlan() {
        if (isPlanOld) {
            planner.read(book, ratioNow);
            planner.search();
            isPlanOld = false;
        }
    }

    private boolean isChild(int number) {
        return isBelow(number, book.people.children);
    }

    private boolean isLeader(int number) {
        return isBelow(number, book.people.leaders);
    }

    private boolean isTask(int number) {
        return isBelow(number, book.texts.tasks);
    }

    private boolean isBadge(int number) {
        return isBelow(number, book.texts.badges);
    }

    private boolean isSignature(int number) {
        return isBelow(number, book.signatures.size);
    }

    private static boolean isBelow(int number, int end) {
        return number >= 0 && number < end;
    }

    private static boolean isUpTo(int number, int last) {
        return number >= 0 && number <= last;
    }

    private static boolean isDay(int number) {
        return isUpTo(number, LAST_DAY);
    }

    private static boolean isAge(int number) {
        return number >= YOUNGEST && number <= OLDEST;
    }

    private static boolean hasBit(int bits, int bit) {
        return (bits >> bit & 1) == 1;
    }

    private static int dayOrNone(int day) {
        return day == NEVER ? NONE : day;
    }

    private static int replace(int[] row, int index, int v) {
        if (!isBelow(index, row.length)) {
            return NUMBER;
        }
        int was = row[index];
        row[index] = v;
        return was;
    }

    private static void copyRow(int[] source, int[] target) {
        System.arraycopy(source, 0, target, 0, Math.min(source.length, target.length));
    }

    // By a loop, as the library's copies are meant for rows of numbers.
    private static void copyMarks(boolean[] source, boolean[] target) {
        for (int i = 0; i < source.length && i < target.length; i++) {
            target[i] = source[i];
        }
    }

    /** All that is kept together; the ratio is not, so it stands outside. */
    private static final class Book {
        private final People people = new People();
        private final Texts texts = new Texts();
        private final Signatures signatures = new Signatures();
        private final Camps camps = new Camps();

        private void become(Book source) {
            people.become(source.people);
            texts.become(source.texts);
            signatures.become(source.signatures);
            camps.become(source.camps);
        }
    }

    /** Children and leaders. What stands behind the last of them is as in a new book. */
    private static final class People {
        private int children;
        private final int[] ages = new int[CHILDREN];
        private final int[] patrols = new int[CHILDREN];
        private int leaders;
        private final int[] paperFrom = new int[LEADERS * SORTS];
        private final int[] paperTo = new int[LEADERS * SORTS];
        private final int[] weekends = new int[LEADERS];

        private People() {
            Arrays.fill(paperFrom, NO_PAPER);
            Arrays.fill(paperTo, NO_PAPER);
        }

        private void become(People source) {
            children = source.children;
            copyRow(source.ages, ages);
            copyRow(source.patrols, patrols);
            leaders = source.leaders;
            copyRow(source.paperFrom, paperFrom);
            copyRow(source.paperTo, paperTo);
            copyRow(source.weekends, weekends);
        }

        private boolean hasPaper(int leader, int sort, int day) {
            int cell = leader * SORTS + sort;
            // NO_PAPER is before every day, so an end that is NO_PAPER holds on none.
            return paperFrom[cell] <= day && day <= paperTo[cell];
        }

        private int countPatrol(int patrol) {
            int count = 0;
            for (int child = 0; child < children; child++) {
                if (patrols[child] == patrol) {
                    count++;
                }
            }
            return count;
        }

        private int countFree(int weekend) {
            int count = 0;
            for (int leader = 0; leader < leaders; leader++) {
                if (hasBit(weekends[leader], weekend)) {
                    count++;
                }
            }
            return count;
        }
    }

    /** Tasks and badges: what they ask for. */
    private static final class Texts {
        private int tasks;
        private final int[] sorts = new int[TASKS];
        private final int[] leans = new int[TASKS];
        private int badges;
        private final int[] alls = new int[BADGES];
        private final int[] somes = new int[BADGES];
        private final int[] manys = new int[BADGES];
        private final int[] ages = new int[BADGES];
        private final int[] others = new int[BADGES];

        private void become(Texts source) {
            tasks = source.tasks;
            copyRow(source.sorts, sorts);
            copyRow(source.leans, leans);
            badges = source.badges;
            copyRow(source.alls, alls);
            copyRow(source.somes, somes);
            copyRow(source.manys, manys);
            copyRow(source.ages, ages);
            copyRow(source.others, others);
        }
    }

    private static final class Signatures {
        private int size;
        private final int[] children = new int[SIGNATURES];
        private final int[] tasks = new int[SIGNATURES];
        private final int[] leaders = new int[SIGNATURES];
        private final int[] days = new int[SIGNATURES];
        private final boolean[] struck = new boolean[SIGNATURES];

        private void become(Signatures source) {
            size = source.size;
            copyRow(source.children, children);
            copyRow(source.tasks, tasks);
            copyRow(source.leaders, leaders);
            copyRow(source.days, days);
            copyMarks(source.struck, struck);
        }
    }

    /** Sites, and what the patrols wish, also for sites that haven't come yet. */
    private static final class Camps {
        private int sites;
        private final int[] beds = new int[SITES];
        private final boolean[] woods = new boolean[SITES];
        private final int[] wishes = new int[PATROLS * SLOTS];

        private void become(Camps source) {
            sites = source.sites;
            copyRow(source.beds, beds);
            copyMarks(source.woods, woods);
            copyRow(source.wishes, wishes);
        }
    }

    /** From which days tasks are done and badges held; read anew from the book for each call. */
    private static final class Days {
        private final int[] done = new int[CHILDREN * TASKS];
        private final int[] held = new int[BADGES];

        /** A task leans on a lesser one only, so in their order each finds what it leans on read. */
        private void readDone(Book book) {
            Arrays.fill(done, NEVER);
            for (int task = 0; task < book.texts.tasks; task++) {
                readTask(book, task);
            }
        }

        private void readTask(Book book, int task) {
            Signatures signatures = book.signatures;
            for (int signature = 0; signature < signatures.size; signature++) {
                if (signatures.tasks[signature] == task && counts(book, signature)) {
                    int cell = signatures.children[signature] * TASKS + task;
                    done[cell] = Math.min(done[cell], signatures.days[signature]);
                }
            }
        }

        /** Needs done read for the task that the signature's own leans on. */
        private boolean counts(Book book, int signature) {
            Signatures signatures = book.signatures;
            if (signatures.struck[signature]) {
                return false;
            }
            int task = signatures.tasks[signature];
            int day = signatures.days[signature];
            if (!book.people.hasPaper(signatures.leaders[signature], book.texts.sorts[task], day)) {
                return false;
            }
            int lean = book.texts.leans[task];
            return lean == NO_OTHER || doneFrom(signatures.children[signature], lean) <= day;
        }

        private int countCounting(Book book) {
            int count = 0;
            for (int signature = 0; signature < book.signatures.size; signature++) {
                if (counts(book, signature)) {
                    count++;
                }
            }
            return count;
        }

        private int doneFrom(int child, int task) {
            return done[child * TASKS + task];
        }

        private int bitsNotDone(int child, int bits) {
            int left = 0;
            for (int task = 0; task < TASKS; task++) {
                if (hasBit(bits, task) && doneFrom(child, task) == NEVER) {
                    left |= 1 << task;
                }
            }
            return left;
        }

        private int doneBy(int child, int bits, int day) {
            int count = 0;
            for (int task = 0; task < TASKS; task++) {
                if (hasBit(bits, task) && doneFrom(child, task) <= day) {
                    count++;
                }
            }
            return count;
        }

        private int allFrom(int child, int bits) {
            int day = 0;
            for (int task = 0; task < TASKS; task++) {
                if (hasBit(bits, task)) {
                    day = Math.max(day, doneFrom(child, task));
                }
            }
            return day;
        }

        private int someFrom(int child, int bits, int wanted) {
            if (wanted == 0) {
                return 0;
            }
            int earliest = NEVER;
            for (int task = 0; task < TASKS; task++) {
                int day = doneFrom(child, task);
                if (hasBit(bits, task) && day < earliest && doneBy(child, bits, day) >= wanted) {
                    earliest = day;
                }
            }
            return earliest;
        }

        private int otherFrom(int other) {
            return other == NO_OTHER ? 0 : held[other];
        }

        /** Needs done read. A badge asks for a lesser one only, so their order serves here too. */
        private void readHeld(Book book, int child) {
            for (int badge = 0; badge < book.texts.badges; badge++) {
                held[badge] = readBadge(book, child, badge);
            }
        }

        private int readBadge(Book book, int child, int badge) {
            Texts texts = book.texts;
            if (book.people.ages[child] < texts.ages[badge]) {
                return NEVER;
            }
            int all = allFrom(child, texts.alls[badge]);
            int some = someFrom(child, texts.somes[badge], texts.manys[badge]);
            return Math.max(Math.max(all, some), otherFrom(texts.others[badge]));
        }

        /** Needs held read for the child. */
        private int countHeld(Book book, int day) {
            int count = 0;
            for (int badge = 0; badge < book.texts.badges; badge++) {
                if (held[badge] <= day) {
                    count++;
                }
            }
            return count;
        }

        private int countHeldOfAll(Book book) {
            int count = 0;
            for (int child = 0; child < book.people.children; child++) {
                readHeld(book, child);
                count += countHeld(book, LAST_DAY);
            }
            return count;
        }
    }

    /** Searches THE PLAN; a slot is 3 WEEKEND + SITE. */
    private static final class Planner {
        private final int[] heads = new int[PATROLS];
        private final int[] room = new int[WEEKENDS];
        private final int[] offers = new int[PATROLS * SLOTS];
        private final int[] bars = new int[SLOTS];
        // Of the patrols from one on: their greatest offers together, and how many have any.
        private final int[] hopes = new int[PATROLS + 1];
        private final int[] askers = new int[PATROLS + 1];
        private final int[] tried = new int[PATROLS];
        private final int[] best = new int[PATROLS];
        private int bestWorth;
        private int bestGiven;

        private void read(Book book, int ratio) {
            for (int weekend = 0; weekend < WEEKENDS; weekend++) {
                room[weekend] = ratio * book.people.countFree(weekend);
            }
            for (int slot = 0; slot < SLOTS; slot++) {
                bars[slot] = readBars(slot, book.camps.woods[slot % SITES]);
            }
            for (int patrol = 0; patrol < PATROLS; patrol++) {
                heads[patrol] = book.people.countPatrol(patrol);
                for (int slot = 0; slot < SLOTS; slot++) {
                    offers[patrol * SLOTS + slot] = readOffer(book.camps, patrol, slot);
                }
            }
            readHopes();
        }

        /** The slots (bits) that may not be given beside this one: itself, and a wood's neighbours. */
        private static int readBars(int slot, boolean wood) {
            int bits = 1 << slot;
            return wood ? bits | bits << SITES | bits >> SITES : bits;
        }

        /**
         * What a slot is worth to a patrol, 0 if it can't be given. To give one for no wishes adds
         * no worth but a patrol, so THE PLAN never does and 0 may stand for both.
         */
        private int readOffer(Camps camps, int patrol, int slot) {
            int site = slot % SITES;
            int count = heads[patrol];
            if (count == 0 || site >= camps.sites || count > camps.beds[site] || count > room[slot / SITES]) {
                return 0;
            }
            return camps.wishes[patrol * SLOTS + slot];
        }

        private void readHopes() {
            hopes[PATROLS] = 0;
            askers[PATROLS] = 0;
            for (int patrol = PATROLS - 1; patrol >= 0; patrol--) {
                int greatest = 0;
                for (int slot = 0; slot < SLOTS; slot++) {
                    greatest = Math.max(greatest, offers[patrol * SLOTS + slot]);
                }
                hopes[patrol] = hopes[patrol + 1] + greatest;
                askers[patrol] = askers[patrol + 1] + (greatest > 0 ? 1 : 0);
            }
        }

        /** Begins at the plan that gives nothing, which is always allowed. */
        private void search() {
            Arrays.fill(best, NOTHING);
            bestWorth = 0;
            bestGiven = 0;
            seek(this, 0, 0, 0, 0);
        }

        /**
         * Tries the slots in their order and nothing last, so that of plans alike in worth and
         * number the one that the document puts first is met first, and only a better one follows.
         */
        private static void seek(Planner planner, int patrol, int used, int worth, int given) {
            if (planner.isNoBetter(patrol, worth, given)) {
                return;
            }
            if (patrol >= PATROLS) {
                planner.takeTried(worth, given);
                return;
            }
            int count = planner.heads[patrol];
            for (int slot = 0; slot < SLOTS; slot++) {
                int offer = planner.offers[patrol * SLOTS + slot];
                int weekend = slot / SITES;
                if (offer > 0 && (used & planner.bars[slot]) == 0 && count <= planner.room[weekend]) {
                    planner.tried[patrol] = slot;
                    planner.room[weekend] -= count;
                    seek(planner, patrol + 1, used | 1 << slot, worth + offer, given + 1);
                    planner.room[weekend] += count;
                }
            }
            planner.tried[patrol] = NOTHING;
            seek(planner, patrol + 1, used, worth, given);
        }

        /**
         * Whether no way on from here beats the best. If even the greatest offers only reach its
         * worth, every patrol left that has offers must be given one, which tells their number.
         */
        private boolean isNoBetter(int patrol, int worth, int given) {
            int hope = worth + hopes[patrol];
            return hope < bestWorth || (hope == bestWorth && given + askers[patrol] >= bestGiven);
        }

        private void takeTried(int worth, int given) {
            copyRow(tried, best);
            bestWorth = worth;
            bestGiven = given;
        }

        private int countAway(int weekend) {
            int count = 0;
            for (int patrol = 0; patrol < PATROLS; patrol++) {
                if (best[patrol] != NOTHING && best[patrol] / SITES == weekend) {
                    count += heads[patrol];
                }
            }
            return count;
        }
    }
}
