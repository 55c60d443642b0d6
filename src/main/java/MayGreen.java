/** A village of two sides, its Mays on the green, and what its people reckon. */
public final class MayGreen {
    public static final int NONE = -1;
    public static final int VOID = -2147483648;

    private static final int SIDE = 4;
    private static final int PEOPLE = 8;
    private static final int COUPLES = 16;
    private static final int VIEWS = 32;
    private static final int FIRST_RIGHT = 10;
    private static final int MOST_KNOWN = 4;
    private static final int MOST_CHILDREN = 99;
    private static final int MOST_COW = 999;
    private static final int IMAGES = 3;
    private static final int FED = 20;
    private static final int THOUSAND = 1000;
    private static final int SIXTEEN = 16;
    private static final int NO_SUCH = 0;
    private static final int NO_ROOM = 1;
    private static final int CANNOT_BE = 2;

    private final Text text;
    private final Plan draft;
    private final Reader reader;
    private final Plan plan;
    private final Life now;
    private final Mind mind;
    private final Green meadow;
    private final Elders elders;
    private final Season season;
    private final Life[] album;
    private final boolean[] kept;
    private final int[] refused;

    public MayGreen() {
        text = new Text();
        draft = new Plan();
        reader = new Reader(text, draft);
        plan = new Plan();
        now = new Life();
        mind = new Mind(plan, now);
        meadow = new Green(plan, now);
        elders = new Elders(plan);
        season = new Season(plan, now, mind, meadow);
        album = new Life[IMAGES];
        for (int k = 0; k < album.length; k++) {
            album[k] = new Life();
        }
        kept = new boolean[IMAGES];
        refused = new int[CANNOT_BE + 1];
    }

    public int feed(int a, int b, int c, int d, int e) {
        if (!text.hasRoomFor(FED)) {
            refuse(NO_ROOM);
            return NONE;
        }
        text.append(a);
        text.append(b);
        text.append(c);
        text.append(d);
        text.append(e);
        return text.length();
    }

    public boolean end(int n) {
        if (n < 0 || n > text.length()) {
            return refuse(CANNOT_BE);
        }
        text.cutTo(n);
        return true;
    }

    public int fault() {
        return reader.read();
    }

    public int village() {
        if (reader.read() != NONE) {
            refuse(CANNOT_BE);
            return NONE;
        }
        plan.take(draft);
        elders.choose();
        now.begin();
        Rows.unmark(kept);
        text.cutTo(0);
        return plan.lefts + plan.rights;
    }

    public int person(int person, int what) {
        int slot = plan.slotOf(person);
        if (slot == NONE) {
            return VOID;
        }
        switch (what) {
            case 0: return Rows.at(plan.alone, slot);
            case 1: return Who.numberOf(Rows.at(now.mate, slot));
            case 2: return Rows.at(now.years, slot);
            default: return VOID;
        }
    }

    public int earned(int person) {
        int slot = plan.slotOf(person);
        return slot == NONE ? VOID : Rows.at(now.earned, slot);
    }

    public int two(int p, int q, int what) {
        int one = plan.slotOf(p);
        int other = plan.slotOf(q);
        if (!Who.unlike(one, other)) {
            return NONE;
        }
        int couple = Who.couple(one, other);
        switch (what) {
            case 0: return Rows.at(now.good, couple);
            case 1: return Rows.at(now.poor, couple);
            case 2: return Rows.at(now.children, couple);
            case 3: return Rows.at(plan.fit, couple);
            case 4: return now.arePair(one, other) ? Rows.at(now.yeses, one) : 0;
            default: return NONE;
        }
    }

    public int think(int p, int q, int what) {
        int one = plan.slotOf(p);
        int other = plan.slotOf(q);
        if (!Who.unlike(one, other)) {
            return NONE;
        }
        int view = Who.view(one, other);
        switch (what) {
            case 0: return Rows.at(plan.chance, view);
            case 1: return Rows.at(plan.ifRight, view);
            case 2: return Rows.at(plan.ifNot, view);
            default: return NONE;
        }
    }

    public int shown(int p, int q, int what) {
        int one = plan.slotOf(p);
        int other = plan.slotOf(q);
        if (!Who.unlike(one, other)) {
            return NONE;
        }
        int view = Who.view(one, other);
        int couple = Who.couple(one, other);
        int good = Rows.at(now.good, couple);
        int poor = Rows.at(now.poor, couple);
        switch (what) {
            case 0: return plan.shownRight(view, good, poor);
            case 1: return plan.shownGood(view, good, poor);
            default: return NONE;
        }
    }

    public int liking(int p, int q) {
        int one = plan.slotOf(p);
        int other = plan.slotOf(q);
        return Who.unlike(one, other) ? meadow.likingOf(one, other, true) : NONE;
    }

    public int sooner(int p, int q, int r) {
        int one = plan.slotOf(p);
        int other = plan.slotOf(q);
        int third = plan.slotOf(r);
        if (!Who.unlike(one, other) || !Who.unlike(one, third)) {
            return NONE;
        }
        meadow.look(true);
        return meadow.soonerOf(one, other, third) ? 1 : 0;
    }

    public int best(int p, int n, int what) {
        int slot = plan.slotOf(p);
        if (slot == NONE || !canReckon(n)) {
            return VOID;
        }
        mind.enter(slot);
        switch (what) {
            case 0: return (int) mind.bestWorth(n);
            case 1: return Who.numberOf(Who.facing(slot, mind.bestAct(n)));
            default: return VOID;
        }
    }

    public int act(int p, int n, int q) {
        int slot = plan.slotOf(p);
        int other = plan.slotOf(q);
        if (slot == NONE || !canReckon(n) || (q != NONE && !Who.unlike(slot, other))) {
            return VOID;
        }
        mind.enter(slot);
        return (int) mind.worthOfAct(Who.placeOf(other), n);
    }

    public int silent(int p, int n) {
        int slot = plan.slotOf(p);
        if (slot == NONE || !canReckon(n)) {
            return NONE;
        }
        mind.enter(slot);
        return mind.stays(n) ? 0 : 1;
    }

    public int bar(int p, int q, int m, int n) {
        int slot = plan.slotOf(p);
        int other = plan.slotOf(q);
        if (!Who.unlike(slot, other) || m < 1 || m > 6 || !canReckon(n)) {
            return NONE;
        }
        mind.enter(slot);
        return mind.leastGood(Who.placeOf(other), m, n);
    }

    public int price(int p, int n) {
        int slot = plan.slotOf(p);
        if (slot == NONE || !canReckon(n) || Rows.at(now.mate, slot) == NONE) {
            return NONE;
        }
        mind.enter(slot);
        return mind.leastCow(n);
    }

    public int waits(int p, int q, int n) {
        int slot = plan.slotOf(p);
        int other = plan.slotOf(q);
        if (!Who.unlike(slot, other) || n < 2 || !canReckon(n) || now.arePair(slot, other)) {
            return VOID;
        }
        int cow = Rows.at(now.mate, slot) == NONE ? 0 : plan.cow;
        long waiting = (long) THOUSAND * (Rows.at(plan.alone, slot) - cow);
        waiting += (n - 1L) * meadow.likingOf(slot, other, true);
        mind.enter(slot);
        mind.shutOut(Who.placeOf(other));
        return (int) (waiting - mind.bestWorth(n));
    }

    public boolean way(int way) {
        if (way < 0 || way > 3) {
            return refuse(NO_SUCH);
        }
        now.way = way;
        return true;
    }

    public boolean seed(int seed) {
        if (seed < 0 || seed > 1000000) {
            return refuse(CANNOT_BE);
        }
        now.x = seed;
        return true;
    }

    public int green(int way, int person) {
        int slot = plan.slotOf(person);
        if (slot == NONE || way < 0 || way > 2) {
            return VOID;
        }
        meadow.gather(true);
        meadow.look(true);
        meadow.pairUp(way);
        return Who.numberOf(Rows.at(meadow.mate, slot));
    }

    public int may(int n) {
        if (n < 1 || n > 50 || !plan.stands()) {
            refuse(CANNOT_BE);
            return NONE;
        }
        for (int k = 0; k < n; k++) {
            season.hold();
        }
        return now.year;
    }

    public boolean join(int left, int right) {
        int one = plan.slotOf(left);
        int other = plan.slotOf(right);
        if (!Who.unlike(one, other) || one > other) {
            return refuse(NO_SUCH);
        }
        if (Rows.at(now.mate, one) != NONE || Rows.at(now.mate, other) != NONE) {
            return refuse(CANNOT_BE);
        }
        now.bind(one, other);
        return true;
    }

    public boolean part(int person) {
        int slot = plan.slotOf(person);
        if (slot == NONE) {
            return refuse(NO_SUCH);
        }
        int other = Rows.at(now.mate, slot);
        if (other == NONE) {
            return refuse(CANNOT_BE);
        }
        now.loosen(slot, other);
        return true;
    }

    public int log(int k, int what) {
        return k == NONE ? now.ended.size() : now.ended.tell(k, what);
    }

    public int blocks(int k) {
        meadow.look(true);
        int met = 0;
        for (int left = 0; left < plan.lefts; left++) {
            for (int right = 0; right < plan.rights; right++) {
                if (!meadow.wouldSooner(left, SIDE + right)) {
                    continue;
                }
                if (met == k) {
                    return left * 100 + FIRST_RIGHT + right;
                }
                met++;
            }
        }
        return k == NONE ? met : NONE;
    }

    public int parents(int person) {
        if (!plan.stands()) {
            return VOID;
        }
        if (person == NONE) {
            return plan.yearSum(elders.mate);
        }
        int slot = plan.slotOf(person);
        return slot == NONE ? VOID : Who.numberOf(Rows.at(elders.mate, slot));
    }

    public int life(int years, int what) {
        if (!plan.stands() || years < 1 || years > 100 || what < 0 || what > 1) {
            return VOID;
        }
        meadow.gather(true);
        meadow.look(false);
        meadow.pairUp(0);
        int sum = plan.sumOf(meadow.mate, years);
        return what == 0 ? sum : sum - plan.sumOf(elders.mate, years);
    }

    public int never(int what) {
        if (!plan.stands()) {
            return VOID;
        }
        switch (what) {
            case 0: return neverTried();
            case 1: return plan.yearSum(elders.mate) - plan.yearSum(now.mate);
            default: return VOID;
        }
    }

    public int pairs(int m, int what) {
        if (m < 0 || m > 100) {
            return NONE;
        }
        switch (what) {
            case 0: return now.pairsOf(0);
            case 1: return now.pairsOf(m);
            default: return NONE;
        }
    }

    public boolean image(int k) {
        Life picture = pictureAt(k);
        if (picture == null) {
            return refuse(NO_SUCH);
        }
        if (!plan.stands()) {
            return refuse(CANNOT_BE);
        }
        picture.copyOf(now);
        Rows.mark(kept, k, true);
        return true;
    }

    public boolean on(int k) {
        Life picture = pictureAt(k);
        if (picture == null || !Rows.is(kept, k)) {
            return refuse(NO_SUCH);
        }
        now.copyOf(picture);
        return true;
    }

    public int status(int reason) {
        return reason < 0 || reason >= refused.length ? NONE : refused[reason];
    }

    public int count(int what) {
        boolean stands = plan.stands();
        switch (what) {
            case 0: return plan.lefts;
            case 1: return plan.rights;
            case 2: return stands ? now.year : 0;
            case 3: return stands ? now.way : 0;
            case 4: return stands ? plan.ahead : 0;
            case 5: return text.length();
            default: return NONE;
        }
    }

    private boolean refuse(int reason) {
        Rows.put(refused, reason, Rows.at(refused, reason) + 1);
        return false;
    }

    private Life pictureAt(int k) {
        return k < 0 || k >= album.length ? null : album[k];
    }

    private static boolean canReckon(int mays) {
        return mays >= 1 && mays <= 4;
    }

    private int neverTried() {
        int untried = 0;
        for (int left = 0; left < SIDE; left++) {
            int right = Rows.at(elders.mate, left);
            if (right != NONE && !now.haveTried(Who.couple(left, right))) {
                untried++;
            }
        }
        return untried;
    }

    /** Rows looked into only where they reach. */
    private static final class Rows {
        static int at(int[] row, int i) {
            return row != null && i >= 0 && i < row.length ? row[i] : 0;
        }

        static void put(int[] row, int i, int value) {
            if (row != null && i >= 0 && i < row.length) {
                row[i] = value;
            }
        }

        static boolean is(boolean[] row, int i) {
            return row != null && i >= 0 && i < row.length && row[i];
        }

        static void mark(boolean[] row, int i, boolean value) {
            if (row != null && i >= 0 && i < row.length) {
                row[i] = value;
            }
        }

        static void copy(int[] from, int[] to) {
            if (from == null || to == null) {
                return;
            }
            for (int i = 0; i < from.length && i < to.length; i++) {
                to[i] = from[i];
            }
        }

        static void fill(int[] row, int value) {
            if (row == null) {
                return;
            }
            for (int i = 0; i < row.length; i++) {
                row[i] = value;
            }
        }

        static void unmark(boolean[] row) {
            if (row == null) {
                return;
            }
            for (int i = 0; i < row.length; i++) {
                row[i] = false;
            }
        }
    }

    /**
     * People stand in slots (LEFT 0 .. 3, RIGHT 4 .. 7), each in a place (0 .. 3) of a side, so that rows of both
     * sides need no gaps.
     */
    private static final class Who {
        static int numberOf(int slot) {
            return slot < SIDE ? slot : slot - SIDE + FIRST_RIGHT;
        }

        static int placeOf(int slot) {
            return slot < SIDE ? slot : slot - SIDE;
        }

        static int facing(int slot, int place) {
            if (place == NONE) {
                return NONE;
            }
            return slot < SIDE ? place + SIDE : place;
        }

        static boolean unlike(int one, int other) {
            return one != NONE && other != NONE && (one < SIDE) != (other < SIDE);
        }

        static int couple(int one, int other) {
            return one < other ? one * SIDE + other - SIDE : other * SIDE + one - SIDE;
        }

        static int view(int one, int other) {
            return one * SIDE + other % SIDE;
        }
    }

    /** The text's bytes. */
    private static final class Text {
        private final int[] bytes = new int[500];
        private int length;

        int length() {
            return length;
        }

        boolean hasRoomFor(int more) {
            return length + more <= bytes.length;
        }

        void append(int four) {
            for (int shift = 24; shift >= 0; shift -= 8) {
                if (length < bytes.length) {
                    Rows.put(bytes, length, (four >>> shift) & 255);
                    length++;
                }
            }
        }

        void cutTo(int n) {
            if (n >= 0 && n <= length) {
                length = n;
            }
        }

        int byteAt(int i) {
            return i < length ? Rows.at(bytes, i) : NONE;
        }
    }

    /** What a village's text tells, and what follows of that alone. */
    private static final class Plan {
        private static final int STEPS = MOST_KNOWN + 1;

        int lefts;
        int rights;
        int worthGood;
        int worthPoor;
        int houseYears;
        int house;
        int childChance;
        int child;
        int cow;
        int ahead;
        final int[] alone = new int[PEOPLE];
        final int[] chance = new int[VIEWS];
        final int[] ifRight = new int[VIEWS];
        final int[] ifNot = new int[VIEWS];
        final int[] fit = new int[COUPLES];
        private final int[] goodAfter = new int[VIEWS * STEPS * STEPS];

        void clear() {
            lefts = 0;
            rights = 0;
            worthGood = 10;
            worthPoor = 0;
            houseYears = 1;
            house = 0;
            childChance = 0;
            child = 0;
            cow = 0;
            ahead = 3;
            Rows.fill(alone, 0);
            Rows.fill(chance, 8);
            Rows.fill(ifRight, 12);
            Rows.fill(ifNot, 4);
            Rows.fill(fit, 8);
        }

        void take(Plan told) {
            if (told == null) {
                return;
            }
            lefts = told.lefts;
            rights = told.rights;
            worthGood = told.worthGood;
            worthPoor = told.worthPoor;
            houseYears = told.houseYears;
            house = told.house;
            childChance = told.childChance;
            child = told.child;
            cow = told.cow;
            ahead = told.ahead;
            Rows.copy(told.alone, alone);
            Rows.copy(told.chance, chance);
            Rows.copy(told.ifRight, ifRight);
            Rows.copy(told.ifNot, ifNot);
            Rows.copy(told.fit, fit);
            reckonShown();
        }

        boolean stands() {
            return lefts > 0 && rights > 0;
        }

        int slotOf(int person) {
            if (person >= 0 && person < lefts) {
                return person;
            }
            if (person >= FIRST_RIGHT && person < FIRST_RIGHT + rights) {
                return person - FIRST_RIGHT + SIDE;
            }
            return NONE;
        }

        boolean isPerson(int slot) {
            return slot < SIDE ? slot >= 0 && slot < lefts : slot - SIDE < rights;
        }

        int shownRight(int view, int good, int poor) {
            long right = rightAfter(view, good, poor);
            long all = right + otherAfter(view, good, poor);
            return all <= 0 ? 0 : (int) (THOUSAND * right / all);
        }

        int shownGood(int view, int good, int poor) {
            return Rows.at(goodAfter, (view * STEPS + good) * STEPS + poor);
        }

        /** LIKING but for the CHILDREN. */
        int gain(int view, int good, int poor) {
            int chanceOfGood = shownGood(view, good, poor);
            return chanceOfGood * worthGood + (THOUSAND - chanceOfGood) * worthPoor;
        }

        int yearSum(int[] mate) {
            int sum = 0;
            for (int slot = 0; slot < PEOPLE; slot++) {
                if (isPerson(slot)) {
                    sum += trueYear(slot, Rows.at(mate, slot));
                }
            }
            return sum;
        }

        int sumOf(int[] mate, int years) {
            int housed = Math.max(0, years - houseYears) * SIXTEEN * house;
            int sum = yearSum(mate) * years;
            for (int slot = 0; slot < PEOPLE; slot++) {
                if (isPerson(slot) && Rows.at(mate, slot) != NONE) {
                    sum += housed;
                }
            }
            return sum;
        }

        private int trueYear(int slot, int other) {
            if (other == NONE) {
                return SIXTEEN * Rows.at(alone, slot);
            }
            int fits = Rows.at(fit, Who.couple(slot, other));
            return fits * worthGood + (SIXTEEN - fits) * worthPoor;
        }

        private void reckonShown() {
            for (int view = 0; view < VIEWS; view++) {
                for (int good = 0; good < STEPS; good++) {
                    for (int poor = 0; poor < STEPS; poor++) {
                        Rows.put(goodAfter, (view * STEPS + good) * STEPS + poor, goodNext(view, good, poor));
                    }
                }
            }
        }

        private int goodNext(int view, int good, int poor) {
            long right = rightAfter(view, good, poor);
            long other = otherAfter(view, good, poor);
            long all = SIXTEEN * (right + other);
            if (all <= 0) {
                return 0;
            }
            return (int) (THOUSAND * (right * Rows.at(ifRight, view) + other * Rows.at(ifNot, view)) / all);
        }

        private long rightAfter(int view, int good, int poor) {
            return Rows.at(chance, view) * oddsOf(Rows.at(ifRight, view), good, poor);
        }

        private long otherAfter(int view, int good, int poor) {
            return (SIXTEEN - Rows.at(chance, view)) * oddsOf(Rows.at(ifNot, view), good, poor);
        }

        private static long oddsOf(int ofSixteen, int good, int poor) {
            long odds = 1;
            for (int k = 0; k < good && k < MOST_KNOWN; k++) {
                odds *= ofSixteen;
            }
            for (int k = 0; k < poor && k < MOST_KNOWN; k++) {
                odds *= SIXTEEN - ofSixteen;
            }
            return odds;
        }
    }

    /** Reads a text into a plan, token by token; a line that fails leaves `start` at the fault. */
    private static final class Reader {
        private static final int END = 0;
        private static final int WORD = 1;
        private static final int NUMBER = 2;
        private static final int STOP = 3;
        private static final int NO_TOKEN = 4;
        private static final int MOST_LETTERS = 8;
        private static final int TOO_MUCH = 1000000;

        private final Text text;
        private final Plan plan;
        private final long[] names = new long[PEOPLE];
        private final boolean[] thought = new boolean[VIEWS];
        private final boolean[] fitted = new boolean[COUPLES];
        private int once;
        private int kind;
        private int start;
        private int next;
        private int value;

        Reader(Text text, Plan plan) {
            this.text = text;
            this.plan = plan;
        }

        int read() {
            plan.clear();
            once = 0;
            next = 0;
            Rows.unmark(thought);
            Rows.unmark(fitted);
            scan();
            for (int lines = 0; lines <= text.length() && kind != END; lines++) {
                if (!readLine()) {
                    return start;
                }
            }
            return plan.stands() ? NONE : text.length();
        }

        private void scan() {
            start = next;
            while (start < text.length() && isBlank(text.byteAt(start))) {
                start++;
            }
            kind = kindOf(text.byteAt(start));
            next = kind == END ? start : start + 1;
            if (kind == WORD || kind == NUMBER) {
                while (next < text.length() && kindOf(text.byteAt(next)) == kind) {
                    next++;
                }
            }
        }

        private static boolean isBlank(int sign) {
            return sign == 32 || sign == 10;
        }

        private static int kindOf(int sign) {
            if (sign == NONE) {
                return END;
            }
            if (sign >= 'a' && sign <= 'z') {
                return WORD;
            }
            if (sign >= '0' && sign <= '9') {
                return NUMBER;
            }
            return sign == ';' ? STOP : NO_TOKEN;
        }

        private boolean readLine() {
            if (isWord("left")) {
                return readPerson(0, plan.lefts);
            }
            if (isWord("right")) {
                return readPerson(SIDE, plan.rights);
            }
            if (isWord("think")) {
                return readThink();
            }
            if (isWord("fit")) {
                return readFit();
            }
            if (isWord("worth")) {
                return readWorth();
            }
            if (isWord("house")) {
                return readHouse();
            }
            if (isWord("child")) {
                return readChild();
            }
            if (isWord("cow")) {
                return readCow();
            }
            return isWord("ahead") && readAhead();
        }

        private boolean readPerson(int first, int there) {
            if (there >= SIDE) {
                return false;
            }
            scan();
            long name = nameHere();
            if (name == 0 || isLineWord() || slotNamed(name) != NONE) {
                return false;
            }
            scan();
            if (!takeNumber(0, 99)) {
                return false;
            }
            int slot = first + there;
            if (slot >= 0 && slot < names.length) {
                names[slot] = name;
            }
            Rows.put(plan.alone, slot, value);
            if (first == 0) {
                plan.lefts++;
            } else {
                plan.rights++;
            }
            return takeStop();
        }

        private boolean readThink() {
            scan();
            int one = slotNamed(nameHere());
            if (one == NONE) {
                return false;
            }
            scan();
            int other = slotNamed(nameHere());
            if (!Who.unlike(one, other) || Rows.is(thought, Who.view(one, other))) {
                return false;
            }
            int view = Who.view(one, other);
            scan();
            Rows.mark(thought, view, true);
            if (!takeNumber(0, SIXTEEN)) {
                return false;
            }
            Rows.put(plan.chance, view, value);
            if (!takeNumber(0, SIXTEEN)) {
                return false;
            }
            Rows.put(plan.ifRight, view, value);
            if (!takeNumber(0, value)) {
                return false;
            }
            Rows.put(plan.ifNot, view, value);
            return takeStop();
        }

        private boolean readFit() {
            scan();
            int left = slotNamed(nameHere());
            if (left == NONE || left >= SIDE) {
                return false;
            }
            scan();
            int right = slotNamed(nameHere());
            if (!Who.unlike(left, right) || Rows.is(fitted, Who.couple(left, right))) {
                return false;
            }
            int couple = Who.couple(left, right);
            scan();
            Rows.mark(fitted, couple, true);
            if (!takeNumber(0, SIXTEEN)) {
                return false;
            }
            Rows.put(plan.fit, couple, value);
            return takeStop();
        }

        private boolean readWorth() {
            if (!firstTold(1) || !takeNumber(0, 99)) {
                return false;
            }
            plan.worthGood = value;
            if (!takeNumber(0, 99)) {
                return false;
            }
            plan.worthPoor = value;
            return takeStop();
        }

        private boolean readHouse() {
            if (!firstTold(2) || !takeNumber(1, 9)) {
                return false;
            }
            plan.houseYears = value;
            if (!takeNumber(0, 99)) {
                return false;
            }
            plan.house = value;
            return takeStop();
        }

        private boolean readChild() {
            if (!firstTold(4) || !takeNumber(0, SIXTEEN)) {
                return false;
            }
            plan.childChance = value;
            if (!takeNumber(0, 99)) {
                return false;
            }
            plan.child = value;
            return takeStop();
        }

        private boolean readCow() {
            if (!firstTold(8) || !takeNumber(0, MOST_COW)) {
                return false;
            }
            plan.cow = value;
            return takeStop();
        }

        private boolean readAhead() {
            if (!firstTold(16) || !takeNumber(1, 4)) {
                return false;
            }
            plan.ahead = value;
            return takeStop();
        }

        private boolean firstTold(int bit) {
            if ((once & bit) != 0) {
                return false;
            }
            once |= bit;
            scan();
            return true;
        }

        private boolean takeNumber(int least, int most) {
            if (kind != NUMBER) {
                return false;
            }
            int number = numberHere();
            if (number < least || number > most) {
                return false;
            }
            value = number;
            scan();
            return true;
        }

        private boolean takeStop() {
            if (kind != STOP) {
                return false;
            }
            scan();
            return true;
        }

        private int numberHere() {
            int number = 0;
            for (int i = start; i < next; i++) {
                number = Math.min(TOO_MUCH, number * 10 + text.byteAt(i) - '0');
            }
            return number;
        }

        /** The letters of a word that could be a NAME as one number; 0 for anything else. */
        private long nameHere() {
            if (kind != WORD || next - start > MOST_LETTERS) {
                return 0;
            }
            long name = 0;
            for (int i = start; i < next; i++) {
                name = name * 256 + text.byteAt(i);
            }
            return name;
        }

        private int slotNamed(long name) {
            for (int slot = 0; slot < names.length; slot++) {
                if (name != 0 && plan.isPerson(slot) && names[slot] == name) {
                    return slot;
                }
            }
            return NONE;
        }

        private boolean isLineWord() {
            return isWord("left") || isWord("right") || isWord("think") || isWord("fit") || isWord("worth")
                || isWord("house") || isWord("child") || isWord("cow") || isWord("ahead");
        }

        private boolean isWord(String word) {
            if (kind != WORD || word.length() != next - start) {
                return false;
            }
            for (int i = 0; i < word.length(); i++) {
                if (word.charAt(i) != text.byteAt(start + i)) {
                    return false;
                }
            }
            return true;
        }
    }

    /** What an IMAGE keeps. Rows of people hold the same for both of a pair. */
    private static final class Life {
        int year;
        int way;
        int x;
        final int[] mate = new int[PEOPLE];
        final int[] years = new int[PEOPLE];
        final int[] yeses = new int[PEOPLE];
        final int[] earned = new int[PEOPLE];
        final int[] good = new int[COUPLES];
        final int[] poor = new int[COUPLES];
        final int[] children = new int[COUPLES];
        final Ended ended = new Ended();

        Life() {
            Rows.fill(mate, NONE);
        }

        void begin() {
            year = 0;
            way = 0;
            x = 0;
            Rows.fill(mate, NONE);
            Rows.fill(years, 0);
            Rows.fill(yeses, 0);
            Rows.fill(earned, 0);
            Rows.fill(good, 0);
            Rows.fill(poor, 0);
            Rows.fill(children, 0);
            ended.clear();
        }

        void copyOf(Life from) {
            if (from == null) {
                return;
            }
            year = from.year;
            way = from.way;
            x = from.x;
            Rows.copy(from.mate, mate);
            Rows.copy(from.years, years);
            Rows.copy(from.yeses, yeses);
            Rows.copy(from.earned, earned);
            Rows.copy(from.good, good);
            Rows.copy(from.poor, poor);
            Rows.copy(from.children, children);
            ended.copyOf(from.ended);
        }

        void bind(int one, int other) {
            Rows.put(mate, one, other);
            Rows.put(mate, other, one);
        }

        void loosen(int one, int other) {
            free(one);
            free(other);
        }

        boolean arePair(int one, int other) {
            return one != NONE && other != NONE && Rows.at(mate, one) == other;
        }

        boolean haveTried(int couple) {
            return Rows.at(good, couple) + Rows.at(poor, couple) > 0;
        }

        int pairsOf(int leastYeses) {
            int met = 0;
            for (int left = 0; left < SIDE; left++) {
                if (Rows.at(mate, left) != NONE && Rows.at(yeses, left) >= leastYeses) {
                    met++;
                }
            }
            return met;
        }

        void earn(int slot, int more) {
            Rows.put(earned, slot, Rows.at(earned, slot) + more);
        }

        int lot(int below) {
            x = (int) ((x * 1103515245L + 12345L) & 2147483647L);
            return below > 0 ? x / 256 % below : 0;
        }

        private void free(int slot) {
            Rows.put(mate, slot, NONE);
            Rows.put(years, slot, 0);
            Rows.put(yeses, slot, 0);
        }
    }

    /** The LOG: a ring of rows, so that the eldest gives way without moving the others. */
    private static final class Ended {
        private static final int ROWS = 40;
        private static final int WIDTH = 5;

        private final int[] cells = new int[ROWS * WIDTH];
        private int first;
        private int size;

        int size() {
            return size;
        }

        void clear() {
            first = 0;
            size = 0;
        }

        void copyOf(Ended from) {
            if (from == null) {
                return;
            }
            first = from.first;
            size = from.size;
            Rows.copy(from.cells, cells);
        }

        void add(int year, int left, int right, int years, int silence) {
            int row = (first + size) % ROWS * WIDTH;
            Rows.put(cells, row, year);
            Rows.put(cells, row + 1, left);
            Rows.put(cells, row + 2, right);
            Rows.put(cells, row + 3, years);
            Rows.put(cells, row + 4, silence);
            if (size < ROWS) {
                size++;
            } else {
                first = (first + 1) % ROWS;
            }
        }

        int tell(int k, int what) {
            if (k < 0 || k >= size || what < 0 || what >= WIDTH) {
                return NONE;
            }
            return Rows.at(cells, (first + k) % ROWS * WIDTH + what);
        }
    }

    /** One person's reckoning of the Mays ahead. Others are told by their places, being alone by NONE. */
    private static final class Mind {
        private final Plan plan;
        private final Life life;
        private final int[] good = new int[SIDE];
        private final int[] poor = new int[SIDE];
        private final int[] childWorth = new int[SIDE];
        private int me;
        private int others;
        private int has;
        private int hasFor;
        private int cow;
        private int shut;

        Mind(Plan plan, Life life) {
            this.plan = plan;
            this.life = life;
        }

        void enter(int slot) {
            me = slot;
            others = slot < SIDE ? plan.rights : plan.lefts;
            for (int place = 0; place < SIDE; place++) {
                int couple = Who.couple(slot, Who.facing(slot, place));
                Rows.put(good, place, Rows.at(life.good, couple));
                Rows.put(poor, place, Rows.at(life.poor, couple));
                Rows.put(childWorth, place, THOUSAND * plan.child * Rows.at(life.children, couple));
            }
            has = Who.placeOf(Rows.at(life.mate, slot));
            hasFor = Rows.at(life.years, slot);
            cow = plan.cow;
            shut = NONE;
        }

        void shutOut(int place) {
            shut = place;
        }

        long bestWorth(int mays) {
            return worthOf(mays, has, hasFor);
        }

        long worthOfAct(int act, int mays) {
            return doing(act, mays, has, hasFor);
        }

        /** The first of the greatest, in the order in which like ACTS are ahead of each other. */
        int bestAct(int mays) {
            int best = has;
            long most = doing(has, mays, has, hasFor);
            for (int act = NONE; act < others; act++) {
                if (act == has || isShut(act)) {
                    continue;
                }
                long worth = doing(act, mays, has, hasFor);
                if (worth > most) {
                    most = worth;
                    best = act;
                }
            }
            return best;
        }

        boolean stays(int mays) {
            return has == NONE || bestAct(mays) == has;
        }

        int leastGood(int place, int years, int mays) {
            has = place;
            hasFor = years;
            for (int goods = 0; goods <= years; goods++) {
                Rows.put(good, place, Math.min(MOST_KNOWN, goods));
                Rows.put(poor, place, Math.min(MOST_KNOWN, years - goods));
                if (stays(mays)) {
                    return goods;
                }
            }
            return NONE;
        }

        int leastCow(int mays) {
            // A COW more takes 1000 at most from each May of who goes, and gives nothing to who stays: so as many
            // COWS as the lead has thousands a May, all but the last, are surely too few.
            long step = Math.max(1, mays) * (long) THOUSAND;
            long tried = 0;
            for (int tries = 0; tries <= MOST_COW && tried <= MOST_COW; tries++) {
                cow = (int) tried;
                long lead = worthOf(mays, has, hasFor) - doing(has, mays, has, hasFor);
                if (lead <= 0) {
                    return cow;
                }
                tried += (lead + step - 1) / step;
            }
            return NONE;
        }

        private boolean isShut(int act) {
            return act != NONE && act == shut;
        }

        private long worthOf(int mays, int with, int years) {
            if (mays <= 0) {
                return 0;
            }
            long most = doing(with, mays, with, years);
            for (int act = NONE; act < others; act++) {
                if (act != with && !isShut(act)) {
                    most = Math.max(most, doing(act, mays, with, years));
                }
            }
            return most;
        }

        private long doing(int act, int mays, int with, int years) {
            long paid = with != NONE && act != with ? (long) THOUSAND * cow : 0;
            if (act == NONE) {
                return (long) THOUSAND * Rows.at(plan.alone, me) - paid + worthOf(mays - 1, NONE, 0);
            }
            int goods = Rows.at(good, act);
            int poors = Rows.at(poor, act);
            int yearsOn = act == with ? years : 0;
            long chance = plan.shownGood(me * SIDE + act, goods, poors);
            long brings = chance * plan.worthGood + (THOUSAND - chance) * plan.worthPoor + Rows.at(childWorth, act);
            if (yearsOn >= plan.houseYears) {
                brings += (long) THOUSAND * plan.house;
            }
            if (mays <= 1) {
                return brings - paid;
            }
            Rows.put(good, act, Math.min(MOST_KNOWN, goods + 1));
            long behindGood = worthOf(mays - 1, act, yearsOn + 1);
            Rows.put(good, act, goods);
            Rows.put(poor, act, Math.min(MOST_KNOWN, poors + 1));
            long behindPoor = worthOf(mays - 1, act, yearsOn + 1);
            Rows.put(poor, act, poors);
            return brings - paid + (chance * behindGood + (THOUSAND - chance) * behindPoor) / THOUSAND;
        }
    }

    /** Those on the green, whom they would have, and how they pair. */
    private static final class Green {
        private final Plan plan;
        private final Life life;
        private final int[] likings = new int[VIEWS];
        private final boolean[] both = new boolean[COUPLES];
        private final boolean[] here = new boolean[PEOPLE];
        private final boolean[] saidNo = new boolean[COUPLES];
        final int[] mate = new int[PEOPLE];

        Green(Plan plan, Life life) {
            this.plan = plan;
            this.life = life;
        }

        void gather(boolean everybody) {
            for (int slot = 0; slot < PEOPLE; slot++) {
                boolean free = everybody || Rows.at(life.mate, slot) == NONE;
                Rows.mark(here, slot, free && plan.isPerson(slot));
            }
        }

        void look(boolean withKnown) {
            for (int left = 0; left < SIDE; left++) {
                for (int right = SIDE; right < PEOPLE; right++) {
                    Rows.put(likings, Who.view(left, right), likingOf(left, right, withKnown));
                    Rows.put(likings, Who.view(right, left), likingOf(right, left, withKnown));
                    Rows.mark(both, Who.couple(left, right), would(left, right) && would(right, left));
                }
            }
        }

        void pairUp(int way) {
            Rows.fill(mate, NONE);
            Rows.unmark(saidNo);
            switch (way) {
                case 0: askAll(0); break;
                case 1: askAll(SIDE); break;
                case 2: takeTurns(); break;
                default: drawLots(); break;
            }
        }

        boolean soonerOf(int slot, int one, int other) {
            int more = likes(slot, one);
            int less = likes(slot, other);
            return more > less || (more == less && one < other);
        }

        boolean wouldSooner(int left, int right) {
            return Rows.is(both, Who.couple(left, right)) && !life.arePair(left, right)
                && isBetter(left, right) && isBetter(right, left);
        }

        private boolean isBetter(int slot, int other) {
            int has = Rows.at(life.mate, slot);
            return has == NONE || soonerOf(slot, other, has);
        }

        int likingOf(int slot, int other, boolean withKnown) {
            int couple = Who.couple(slot, other);
            int good = withKnown ? Rows.at(life.good, couple) : 0;
            int poor = withKnown ? Rows.at(life.poor, couple) : 0;
            int gain = plan.gain(Who.view(slot, other), good, poor);
            return gain + THOUSAND * plan.child * Rows.at(life.children, couple);
        }

        private int likes(int slot, int other) {
            return Rows.at(likings, Who.view(slot, other));
        }

        private boolean would(int slot, int other) {
            return likes(slot, other) > THOUSAND * Rows.at(plan.alone, slot);
        }

        private boolean canMeet(int slot, int other) {
            return Rows.is(here, slot) && Rows.is(here, other) && Rows.is(both, Who.couple(slot, other));
        }

        private void askAll(int first) {
            // Each round but the last hears at least one of the 16 noes that there can be.
            for (int round = 0; round <= COUPLES; round++) {
                for (int slot = first; slot < first + SIDE; slot++) {
                    if (Rows.at(mate, slot) == NONE) {
                        ask(slot, soonestToAsk(slot));
                    }
                }
            }
        }

        private int soonestToAsk(int slot) {
            int soonest = NONE;
            for (int place = 0; place < SIDE; place++) {
                int other = Who.facing(slot, place);
                boolean open = canMeet(slot, other) && !Rows.is(saidNo, Who.couple(slot, other));
                if (open && (soonest == NONE || soonerOf(slot, other, soonest))) {
                    soonest = other;
                }
            }
            return soonest;
        }

        private void ask(int slot, int asked) {
            if (asked == NONE) {
                return;
            }
            int rival = Rows.at(mate, asked);
            if (rival != NONE && !soonerOf(asked, slot, rival)) {
                Rows.mark(saidNo, Who.couple(slot, asked), true);
                return;
            }
            if (rival != NONE) {
                Rows.mark(saidNo, Who.couple(rival, asked), true);
                Rows.put(mate, rival, NONE);
            }
            tie(slot, asked);
        }

        private void takeTurns() {
            for (int left = 0; left < SIDE; left++) {
                int soonest = NONE;
                for (int right = SIDE; right < PEOPLE; right++) {
                    if (isLeftFor(left, right) && (soonest == NONE || soonerOf(left, right, soonest))) {
                        soonest = right;
                    }
                }
                tie(left, soonest);
            }
        }

        private void drawLots() {
            for (int left = 0; left < SIDE; left++) {
                int open = 0;
                for (int right = SIDE; right < PEOPLE; right++) {
                    open += isLeftFor(left, right) ? 1 : 0;
                }
                if (open > 0) {
                    tie(left, openOne(left, life.lot(open)));
                }
            }
        }

        private int openOne(int left, int lot) {
            int rest = lot;
            for (int right = SIDE; right < PEOPLE; right++) {
                if (isLeftFor(left, right)) {
                    if (rest == 0) {
                        return right;
                    }
                    rest--;
                }
            }
            return NONE;
        }

        private boolean isLeftFor(int left, int right) {
            return canMeet(left, right) && Rows.at(mate, right) == NONE;
        }

        private void tie(int slot, int other) {
            if (other != NONE) {
                Rows.put(mate, slot, other);
                Rows.put(mate, other, slot);
            }
        }
    }

    /** The PARENTS' way, which is the village's for good. */
    private static final class Elders {
        private static final int CHOICES = SIDE + 1;
        private static final int ALL_WAYS = CHOICES * CHOICES * CHOICES * CHOICES;

        private final Plan plan;
        private final int[] trial = new int[PEOPLE];
        final int[] mate = new int[PEOPLE];

        Elders(Plan plan) {
            this.plan = plan;
        }

        void choose() {
            int most = NONE;
            // LEFT 0's choice is the highest digit, nobody being 0: of like ways the first is met first.
            for (int code = 0; code < ALL_WAYS; code++) {
                if (spread(code)) {
                    int sum = plan.yearSum(trial);
                    if (sum > most) {
                        most = sum;
                        Rows.copy(trial, mate);
                    }
                }
            }
        }

        private boolean spread(int code) {
            Rows.fill(trial, NONE);
            int rest = code;
            for (int left = SIDE - 1; left >= 0; left--) {
                int chosen = rest % CHOICES;
                rest /= CHOICES;
                if (chosen == 0) {
                    continue;
                }
                int right = SIDE + chosen - 1;
                if (!plan.isPerson(left) || !plan.isPerson(right) || Rows.at(trial, right) != NONE) {
                    return false;
                }
                Rows.put(trial, left, right);
                Rows.put(trial, right, left);
            }
            return true;
        }
    }

    /** A MAY and its YEAR. */
    private static final class Season {
        private final Plan plan;
        private final Life life;
        private final Mind mind;
        private final Green green;
        private final boolean[] silence = new boolean[PEOPLE];

        Season(Plan plan, Life life, Mind mind, Green green) {
            this.plan = plan;
            this.life = life;
            this.mind = mind;
            this.green = green;
        }

        void hold() {
            askPaired();
            endPairs();
            green.gather(false);
            green.look(true);
            green.pairUp(life.way);
            bindNewPairs();
            passYear();
        }

        private void askPaired() {
            // All are asked before any pair ends: nobody's answer may show in another's.
            for (int slot = 0; slot < PEOPLE; slot++) {
                boolean leaves = false;
                if (Rows.at(life.mate, slot) != NONE) {
                    mind.enter(slot);
                    leaves = !mind.stays(plan.ahead);
                }
                Rows.mark(silence, slot, leaves);
            }
        }

        private void endPairs() {
            for (int left = 0; left < SIDE; left++) {
                int right = Rows.at(life.mate, left);
                if (right != NONE) {
                    hear(left, right);
                }
            }
        }

        private void hear(int left, int right) {
            int who = (Rows.is(silence, left) ? 1 : 0) + (Rows.is(silence, right) ? 2 : 0);
            if (who == 0) {
                int yeses = Rows.at(life.yeses, left) + 1;
                Rows.put(life.yeses, left, yeses);
                Rows.put(life.yeses, right, yeses);
                return;
            }
            life.earn(left, Rows.is(silence, left) ? -plan.cow : 0);
            life.earn(right, Rows.is(silence, right) ? -plan.cow : 0);
            life.ended.add(life.year, left, Who.numberOf(right), Rows.at(life.years, left), who);
            life.loosen(left, right);
        }

        private void bindNewPairs() {
            for (int left = 0; left < SIDE; left++) {
                int right = Rows.at(green.mate, left);
                if (right != NONE) {
                    life.bind(left, right);
                }
            }
        }

        private void passYear() {
            for (int left = 0; left < SIDE; left++) {
                int right = Rows.at(life.mate, left);
                if (right != NONE) {
                    liveTogether(left, right);
                }
            }
            for (int slot = 0; slot < PEOPLE; slot++) {
                if (plan.isPerson(slot) && Rows.at(life.mate, slot) == NONE) {
                    life.earn(slot, Rows.at(plan.alone, slot));
                }
            }
            life.year++;
        }

        private void liveTogether(int left, int right) {
            int couple = Who.couple(left, right);
            boolean isGood = life.lot(SIXTEEN) < Rows.at(plan.fit, couple);
            boolean comesChild = life.lot(SIXTEEN) < plan.childChance;
            int years = Rows.at(life.years, left);
            int children = Rows.at(life.children, couple);
            int worth = (isGood ? plan.worthGood : plan.worthPoor) + plan.child * children;
            if (years >= plan.houseYears) {
                worth += plan.house;
            }
            life.earn(left, worth);
            life.earn(right, worth);
            Rows.put(life.years, left, years + 1);
            Rows.put(life.years, right, years + 1);
            int[] known = isGood ? life.good : life.poor;
            Rows.put(known, couple, Math.min(MOST_KNOWN, Rows.at(known, couple) + 1));
            if (comesChild) {
                Rows.put(life.children, couple, Math.min(MOST_CHILDREN, children + 1));
            }
        }
    }
}
