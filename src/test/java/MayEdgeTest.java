/** The edges that promises 19 to 33 name, and the sentences they rest on, each by a test of its own. */
final class MayEdgeTest {
    private static final int NONE = MayGreen.NONE;
    private static final int VOID = MayGreen.VOID;
    private static final int LEAST = Integer.MIN_VALUE;
    private static final int MOST = Integer.MAX_VALUE;
    private static final String FOUR = "left a 0;left b 0;right p 0;right q 0;";
    private static final String EIGHT = "left a 0;left b 0;left c 0;left d 0;right p 0;right q 0;right r 0;right s 0;";
    /** Nobody of a village of two LEFT and two RIGHT ones; NONE is told apart where it asks for something else. */
    private static final int[] NOBODY = {LEAST, -100, -2, 2, 3, 4, 9, 12, 13, 14, 100, MOST};
    /** All LEFT ones like p most, then q, then r; p and q like d most, then c, then b; r likes b most. */
    private static final String RUSH = EIGHT
        + "think a p 16 15 0;think a q 16 14 0;think a r 16 13 0;think b p 16 15 0;think b q 16 14 0;think b r 16 13 0;"
        + "think c p 16 15 0;think c q 16 14 0;think c r 16 13 0;think d p 16 15 0;think d q 16 14 0;think d r 16 13 0;"
        + "think p d 9 9 9;think p c 9 9 8;think p b 9 9 7;think q d 9 9 9;think q c 9 9 8;think q b 9 9 7;think r b 9 9 9;";
    /** Each LEFT one likes another RIGHT one most, who likes the next LEFT one most. */
    private static final String RING = EIGHT
        + "think a p 16 12 0;think b q 16 12 0;think c r 16 12 0;think d s 16 12 0;"
        + "think p b 16 12 0;think q c 16 12 0;think r d 16 12 0;think s a 16 12 0;";
    private static final Due due = new Due("MayEdgeTest");

    public static void main(String[] args) {
        way();
        seed();
        green();
        may();
        join();
        part();
        log();
        blocks();
        parents();
        life();
        never();
        pairs();
        image();
        on();
        status();
        due.close();
    }

    private static MayGreen lived() {
        return TermsEdgeTest.lived("left x 7;right y 8;");
    }

    private static MayGreen joined(String text, int left, int right) {
        MayGreen g = Village.of(text);
        g.join(left, right);
        return g;
    }

    // Promise 19.

    private static void way() {
        Refusal some = new Refusal(due, MayEdgeTest::lived);
        for (int way : new int[] {LEAST, -2, -1, 4, 5, MOST}) {
            some.refused("way " + way, g -> Refusal.of(g.way(way)), 0, 0);
        }
        for (int way = 0; way <= 3; way++) {
            int told = way;
            some.taken("way " + way, g -> Refusal.of(g.way(told)) * 10 + g.count(3), 10 + way);
        }
        eachWayOnAMay();
    }

    private static void eachWayOnAMay() {
        int[][] ofRing = {{10, 11, 12, 13}, {13, 10, 11, 12}, {10, 11, 12, 13}};
        int[][] ofRush = {{13, 12, 11, 10}, {13, 12, 11, 10}, {10, 11, 12, 13}};
        for (int way = 0; way <= 2; way++) {
            MayGreen ring = Village.of(RING);
            MayGreen rush = Village.of(RUSH);
            ring.way(way);
            rush.way(way);
            for (int left = 0; left < 4; left++) {
                due.is("green of a ring by " + way, ring.green(way, left), ofRing[way][left]);
                due.is("green of a rush by " + way, rush.green(way, left), ofRush[way][left]);
                due.is("RIGHT of a ring by " + way, ring.green(way, ofRing[way][left]), left);
                due.is("RIGHT of a rush by " + way, rush.green(way, ofRush[way][left]), left);
            }
            ring.may(1);
            rush.may(1);
            for (int left = 0; left < 4; left++) {
                due.is("a ring by " + way, ring.person(left, 1), ofRing[way][left]);
                due.is("a rush by " + way, rush.person(left, 1), ofRush[way][left]);
            }
        }
    }

    // Promise 20.

    private static void seed() {
        Refusal some = new Refusal(due, MayEdgeTest::lived);
        for (int seed : new int[] {LEAST, -1, 1000001, 2000000, MOST}) {
            some.refused("seed " + seed, g -> Refusal.of(g.seed(seed)), 0, 2);
        }
        for (int seed : new int[] {0, 1, 999999, 1000000}) {
            some.taken("seed " + seed, g -> Refusal.of(g.seed(seed)), 1);
            lotsFrom(seed);
            lotsForWhoThereIs(seed);
            noLotForNone(seed);
        }
        lotsFromNothingOn();
    }

    /** The document's lots, reckoned without a wrap-around. */
    private static final class Lots {
        private long x;

        Lots(int seed) {
            x = seed;
        }

        int below(int n) {
            x = (x * 1103515245L + 12345L) % 2147483648L;
            return (int) (x / 256 % n);
        }
    }

    private static void lotsFrom(int seed) {
        MayGreen g = Village.of("left a 0;right p 0;fit a p 7;worth 10 3;child 9 1;cow 999;ahead 1;");
        g.may(2);
        g.part(0);
        g.seed(seed);
        Lots lots = new Lots(seed);
        for (int year = 0; year < 40; year++) {
            int earned = g.earned(0);
            int children = g.two(0, 10, 2);
            g.may(1);
            due.is("year " + year + " by seed " + seed, g.earned(0) - earned, (lots.below(16) < 7 ? 10 : 3) + children);
            due.is("CHILD " + year + " by seed " + seed, g.two(0, 10, 2) - children, lots.below(16) < 9 ? 1 : 0);
        }
    }

    /** BY LOT: four are left for the first, one for the last; then two lots for each pair. */
    private static void lotsForWhoThereIs(int seed) {
        MayGreen g = Village.of(EIGHT + "child 8 1;cow 0;ahead 1;");
        g.way(3);
        g.seed(seed);
        Lots lots = new Lots(seed);
        for (int round = 0; round < 5; round++) {
            int[] with = {NONE, NONE, NONE, NONE};
            boolean[] had = new boolean[4];
            for (int left = 0; left < 4; left++) {
                g.part(left);
                int lot = lots.below(4 - left);
                for (int right = 0; right < 4; right++) {
                    if (!had[right] && lot-- == 0) {
                        with[left] = right;
                    }
                }
                had[with[left]] = true;
            }
            int[] good = new int[4];
            int[] children = new int[4];
            for (int left = 0; left < 4; left++) {
                good[left] = g.two(left, 10 + with[left], 0);
                children[left] = g.two(left, 10 + with[left], 2);
            }
            g.may(1);
            for (int left = 0; left < 4; left++) {
                due.is("whom " + left + " has by lot", g.person(left, 1), 10 + with[left]);
                due.is("GOOD by lot", g.two(left, 10 + with[left], 0), Math.min(4, good[left] + (lots.below(16) < 8 ? 1 : 0)));
                due.is("a CHILD by lot", g.two(left, 10 + with[left], 2), children[left] + (lots.below(16) < 8 ? 1 : 0));
            }
        }
    }

    /** z, whom nobody is left for, comes first, in the middle or last. */
    private static void noLotForNone(int seed) {
        for (String lefts : new String[] {"left z 99;left a 0;left b 0;", "left a 0;left z 99;left b 0;", "left a 0;left b 0;left z 99;"}) {
            MayGreen g = Village.of(lefts + "right p 0;right q 0;child 8 1;cow 0;ahead 1;worth 9 9;");
            g.way(3);
            g.seed(seed);
            Lots lots = new Lots(seed);
            int one = g.person(0, 0) == 0 ? 0 : 1;
            int other = g.person(2, 0) == 0 ? 2 : 1;
            for (int round = 0; round < 4; round++) {
                int with = 10 + lots.below(2);
                lots.below(1);
                int children = g.two(one, with, 2) * 100 + g.two(other, 21 - with, 2);
                g.may(1);
                due.is("whom a has", g.person(one, 1), with);
                due.is("whom b has", g.person(other, 1), 21 - with);
                lots.below(16);
                children += lots.below(16) < 8 ? 100 : 0;
                lots.below(16);
                children += lots.below(16) < 8 ? 1 : 0;
                due.is("CHILDREN", g.two(one, with, 2) * 100 + g.two(other, 21 - with, 2), children);
                g.part(one);
                g.part(other);
            }
        }
        // p is a's: none is left for b.
        MayGreen none = Village.of("left a 0;left b 0;right p 0;child 8 1;cow 999;ahead 1;");
        none.way(3);
        none.seed(seed);
        Lots lots = new Lots(seed);
        lots.below(1);
        int children = 0;
        for (int year = 0; year < 9; year++) {
            none.may(1);
            lots.below(16);
            children += lots.below(16) < 8 ? 1 : 0;
            due.is("a and p, no lot for b", none.two(0, 10, 2), children);
        }
    }

    private static void lotsFromNothingOn() {
        MayGreen g = Village.of("left a 0;right p 0;worth 10 3;child 9 1;cow 999;ahead 1;");
        MayGreen seeded = Village.of("left a 0;right p 0;worth 10 3;child 9 1;cow 999;ahead 1;");
        seeded.seed(0);
        for (int year = 0; year < 20; year++) {
            due.is("x is 0 at first", g.may(1) * 1000 + g.earned(0), seeded.may(1) * 1000 + seeded.earned(0));
        }
    }

    // Promise 21.

    private static void green() {
        MayGreen g = Village.of(FOUR);
        for (int way = 0; way <= 2; way++) {
            for (int nobody : NOBODY) {
                due.is("green of " + nobody, g.green(way, nobody), VOID);
            }
            due.is("green of NONE", g.green(way, NONE), VOID);
        }
        for (int way : new int[] {LEAST, -1, 3, 4, MOST}) {
            due.is("green by " + way, g.green(way, 0), VOID);
            due.is("green of q by " + way, g.green(way, 11), VOID);
        }
        nobodyOnTheGreenWould();
        allAreOnTheGreen();
        oneIsLeftOver();
        oneWhoSaidNoIsNotAskedAgain();
    }

    private static void nobodyOnTheGreenWould() {
        MayGreen g = Village.of("left a 5;left b 99;right p 4;right q 4;");
        for (int way = 0; way <= 2; way++) {
            for (int person : new int[] {0, 1, 10, 11}) {
                due.is("a, who likes both as much as ALONE", g.green(way, person), NONE);
            }
        }
        MayGreen right = Village.of("left a 4;left b 4;right p 5;right q 99;");
        for (int way = 0; way <= 2; way++) {
            for (int person : new int[] {0, 1, 10, 11}) {
                due.is("p, who likes both as much as ALONE", right.green(way, person), NONE);
            }
        }
    }

    private static void allAreOnTheGreen() {
        MayGreen g = Village.of(RING);
        for (int left = 0; left < 4; left++) {
            g.join(left, 10 + (left + 2) % 4);
        }
        for (int left = 0; left < 4; left++) {
            due.is("though PAIRED", g.green(0, left), 10 + left);
            due.is("and stays so", g.person(left, 1), 10 + (left + 2) % 4);
        }
        // What is KNOWN and CHILDREN count: a and q have one, a and p a POOR year.
        MayGreen known = Village.of(FOUR + "fit a p 0;fit b q 0;cow 999;ahead 1;");
        known.may(1);
        for (int way = 0; way <= 2; way++) {
            due.is("a POOR year", known.green(way, 0), 11);
            due.is("a POOR year of q", known.green(way, 11), 0);
        }
    }

    private static void oneIsLeftOver() {
        MayGreen g = Village.of("left a 0;left b 0;left c 0;right p 0;");
        for (int way = 0; way <= 2; way++) {
            due.is("the least number of like ones", g.green(way, 10), 0);
            due.is("none for b", g.green(way, 1), NONE);
            due.is("none for c", g.green(way, 2), NONE);
        }
        MayGreen right = Village.of("left a 0;right p 0;right q 0;right r 0;");
        for (int way = 0; way <= 2; way++) {
            due.is("the least number of like RIGHT ones", right.green(way, 0), 10);
            due.is("none for r", right.green(way, 12), NONE);
        }
    }

    private static void oneWhoSaidNoIsNotAskedAgain() {
        // a and p: a is put off by b, b by c, c by d, each then goes on to the next.
        MayGreen g = Village.of(RUSH);
        due.is("a is put off three times", g.green(0, 0), 13);
        MayGreen last = Village.of(EIGHT + "think c s 16 16 0;think d s 16 16 0;think s c 16 16 0;");
        int[] ofLast = {10, 11, 13, 12};
        MayGreen back = Village.of(EIGHT + "think r d 16 16 0;think s d 16 16 0;think d r 16 16 0;");
        int[] ofBack = {10, 11, 13, 12};
        for (int left = 0; left < 4; left++) {
            due.is("s says no to d, who asks p, q and r then", last.green(0, left), ofLast[left]);
            due.is("d says no to s, who asks a, b and c then", back.green(1, left), ofBack[left]);
        }
        MayGreen chain = Village.of("left a 0;left b 0;right p 0;right q 0;think a p 16 12 0;think b p 16 12 0;think p b 16 12 0;"
            + "think q a 16 0 0;");
        due.is("q wouldn't: a has nobody", chain.green(0, 0), NONE);
        due.is("p keeps b", chain.green(0, 10), 1);
        due.is("q has nobody", chain.green(0, 11), NONE);
    }

    // Promise 22.

    private static void may() {
        Refusal some = new Refusal(due, MayEdgeTest::lived);
        for (int n : new int[] {LEAST, -1, 0, 51, 52, 256, MOST}) {
            some.refused(n + " Mays", g -> g.may(n), NONE, 2);
        }
        some.taken("1 May", g -> g.may(1), 6);
        some.taken("50 Mays", g -> g.may(50), 55);
        mayBehindARefusedVillage();
        silentOnes();
        bothAreAskedAheadOfAll();
        whoStaysIsNotOnTheGreen();
        aheadTellsHowManyMays();
        houseFromItsYearOn();
        childBehindTheYear();
        goodBelowFit();
    }

    private static void mayBehindARefusedVillage() {
        MayGreen g = new MayGreen();
        Village.write(g, "left a 1;");
        g.village();
        due.is("no VILLAGE", g.may(1), NONE);
        due.is("REFUSED twice", g.status(2), 2);
        Village.write(g, "left a 1;right b 1;");
        g.village();
        due.is("a VILLAGE", g.may(1), 1);
    }

    /** a of the first pair, q of the second, both of the third, none of the fourth would leave. */
    private static final String SILENT_ONES = "left a 99;left b 0;left c 99;left d 0;right p 0;right q 99;right r 99;right s 0;"
        + "cow 7;ahead 1;worth 10 10;";

    private static void silentOnes() {
        MayGreen g = Village.of(SILENT_ONES);
        for (int left = 0; left < 4; left++) {
            g.join(left, 10 + left);
        }
        g.may(1);
        int[] who = {1, 2, 3};
        due.is("three pairs ended", g.log(NONE, 0), 3);
        for (int row = 0; row < 3; row++) {
            due.is("the YEAR", g.log(row, 0), 0);
            due.is("by LEFT numbers", g.log(row, 1), row);
            due.is("RIGHT", g.log(row, 2), 10 + row);
            due.is("no years", g.log(row, 3), 0);
            due.is("who was SILENT", g.log(row, 4), who[row]);
        }
        int[] lefts = {99 - 7, 10, 99 - 7, 10};
        int[] rights = {10, 99 - 7, 99 - 7, 10};
        for (int k = 0; k < 4; k++) {
            due.is("EARNED by LEFT " + k, g.earned(k), lefts[k]);
            due.is("EARNED by RIGHT " + k, g.earned(10 + k), rights[k]);
        }
        due.is("b and p, whom others left", g.person(1, 1), 10);
        due.is("d and s stay", g.two(3, 13, 4), 1);
        due.is("b and p weren't asked", g.two(1, 10, 4), 0);
        due.is("a is alone", g.person(0, 1), NONE);
        due.is("q is alone", g.person(11, 1), NONE);
        g.may(1);
        due.is("nobody more is SILENT", g.log(NONE, 0), 3);
        due.is("two Mays on end", g.two(13, 3, 4), 2);
        due.is("one for b and p", g.two(10, 1, 4), 1);
    }

    private static void bothAreAskedAheadOfAll() {
        // a would rather have q, who has b; b doesn't leave: a is alone then, for q stays with b.
        MayGreen g = Village.of("left a 0;left b 0;right p 0;right q 0;think a p 16 0 0;think a q 16 16 16;ahead 1;fit b q 16;");
        g.join(0, 10);
        g.join(1, 11);
        g.may(1);
        due.is("a said nothing", g.log(0, 4), 1);
        due.is("one row", g.log(NONE, 0), 1);
        due.is("b and q", g.person(1, 1), 11);
        due.is("a is alone: p isn't more than ALONE", g.person(0, 1), NONE);
        // Each LEFT one would rather have whom the other has: both pairs end, and change.
        MayGreen swap = Village.of(FOUR + "think a q 16 12 0;think b p 16 12 0;ahead 1;");
        swap.join(0, 10);
        swap.join(1, 11);
        swap.may(1);
        due.is("two rows", swap.log(NONE, 0), 2);
        due.is("a with q", swap.person(0, 1), 11);
        due.is("b with p", swap.person(1, 1), 10);
    }

    private static void whoStaysIsNotOnTheGreen() {
        for (int way = 0; way <= 3; way++) {
            MayGreen g = joined(FOUR + "think b p 16 16 0;think p b 16 16 0;cow 999;ahead 1;", 0, 10);
            g.way(way);
            g.may(1);
            due.is("a and p stay", g.person(0, 1), 10);
            due.is("b has whom there is", g.person(1, 1), 11);
        }
    }

    private static void aheadTellsHowManyMays() {
        // q is worth 10000 a May more than p: 39000 the COW.
        for (int ahead = 1; ahead <= 4; ahead++) {
            MayGreen g = joined("left a 0;right p 0;right q 0;think a p 16 0 0;think a q 16 16 16;cow 39;ahead " + ahead + ";", 0, 10);
            g.may(1);
            due.is("T " + ahead, g.person(0, 1), ahead == 4 ? 11 : 10);
        }
        MayGreen three = joined("left a 0;right p 0;right q 0;think a p 16 0 0;think a q 16 16 16;cow 29;", 0, 10);
        three.may(1);
        due.is("T 3 without", three.person(0, 1), 11);
        MayGreen dear = joined("left a 0;right p 0;right q 0;think a p 16 0 0;think a q 16 16 16;cow 30;", 0, 10);
        dear.may(1);
        due.is("no more than the COW", dear.person(0, 1), 10);
    }

    private static void houseFromItsYearOn() {
        for (int house = 1; house <= 9; house++) {
            MayGreen g = Village.of("left a 0;right p 0;worth 10 10;house " + house + " 3;cow 999;");
            g.may(house);
            due.is("behind " + (house - 1) + " years", g.earned(0), 10 * house);
            g.may(1);
            due.is("behind " + house + " years", g.earned(10), 10 * house + 13);
        }
        MayGreen none = Village.of("left a 0;right p 0;worth 10 10;cow 999;");
        none.may(12);
        due.is("no house", none.earned(0), 120);
    }

    private static void childBehindTheYear() {
        MayGreen g = Village.of("left a 0;right p 0;worth 10 10;child 16 99;cow 999;");
        g.may(1);
        due.is("not yet worth it", g.earned(0), 10);
        due.is("a CHILD", g.two(0, 10, 2), 1);
        g.may(1);
        due.is("99 by one", g.earned(0), 10 + 109);
        MayGreen none = Village.of("left a 0;right p 0;worth 10 10;child 0 99;cow 999;");
        none.may(50);
        due.is("none by K 0", none.two(0, 10, 2), 0);
        MayGreen full = Village.of("left a 0;right p 0;worth 0 0;child 16 1;cow 999;think a p 8 8 8;");
        full.join(0, 10);
        full.may(50);
        full.may(50);
        due.is("0 .. 98 and 99", full.earned(0), 99 * 100 / 2);
        full.may(1);
        due.is("99 CHILDREN go on", full.earned(0), 99 * 100 / 2 + 99);
    }

    private static void goodBelowFit() {
        // The lots from 0 on are 0 6 7 12 6 12: every other one for a CHILD.
        int[] lots = {0, 7, 6};
        for (int fit = 0; fit <= 16; fit++) {
            MayGreen g = Village.of("left a 0;right p 0;fit a p " + fit + ";worth 1 0;cow 999;ahead 1;");
            g.join(0, 10);
            int earned = 0;
            for (int lot : lots) {
                g.may(1);
                earned += lot < fit ? 1 : 0;
                due.is("lot " + lot + " by F " + fit, g.earned(0), earned);
            }
        }
        int[] childLots = {6, 12, 12};
        for (int chance = 0; chance <= 16; chance++) {
            MayGreen g = Village.of("left a 0;right p 0;child " + chance + " 0;cow 999;ahead 1;");
            int children = 0;
            for (int lot : childLots) {
                g.may(1);
                children += lot < chance ? 1 : 0;
                due.is("lot " + lot + " by K " + chance, g.two(0, 10, 2), children);
            }
        }
    }

    // Promise 23.

    private static void join() {
        Refusal some = new Refusal(due, () -> joined(FOUR, 0, 11));
        for (int nobody : NOBODY) {
            some.refused("join " + nobody + " with p", g -> Refusal.of(g.join(nobody, 10)), 0, 0);
            some.refused("join b with " + nobody, g -> Refusal.of(g.join(1, nobody)), 0, 0);
        }
        some.refused("join NONE with p", g -> Refusal.of(g.join(NONE, 10)), 0, 0);
        some.refused("join b with NONE", g -> Refusal.of(g.join(1, NONE)), 0, 0);
        some.refused("RIGHT and LEFT", g -> Refusal.of(g.join(10, 1)), 0, 0);
        some.refused("RIGHT and LEFT, a pair", g -> Refusal.of(g.join(11, 0)), 0, 0);
        some.refused("LEFT and LEFT", g -> Refusal.of(g.join(1, 0)), 0, 0);
        some.refused("RIGHT and RIGHT", g -> Refusal.of(g.join(10, 11)), 0, 0);
        some.refused("one", g -> Refusal.of(g.join(1, 1)), 0, 0);
        some.refused("LEFT has one", g -> Refusal.of(g.join(0, 10)), 0, 2);
        some.refused("RIGHT has one", g -> Refusal.of(g.join(1, 11)), 0, 2);
        some.refused("both have each other", g -> Refusal.of(g.join(0, 11)), 0, 2);
        some.refused("LEFT has one, no such RIGHT", g -> Refusal.of(g.join(0, 12)), 0, 0);
        some.taken("both are alone", g -> Refusal.of(g.join(1, 10)), 1);
        Refusal full = new Refusal(due, () -> {
            MayGreen g = joined(FOUR, 0, 11);
            g.join(1, 10);
            return g;
        });
        full.refused("both have others", g -> Refusal.of(g.join(0, 10)), 0, 2);
        eachCouple();
    }

    private static void eachCouple() {
        for (int left = 0; left < 4; left++) {
            for (int right = 10; right < 14; right++) {
                MayGreen g = joined(EIGHT, left, right);
                due.is("LEFT with RIGHT", g.person(left, 1), right);
                due.is("RIGHT with LEFT", g.person(right, 1), left);
                due.is("one pair", g.pairs(0, 0), 1);
                due.is("years, YESES", g.person(left, 2) + g.person(right, 2) + g.two(left, right, 4), 0);
            }
        }
    }

    // Promise 24.

    private static void part() {
        Refusal some = new Refusal(due, MayEdgeTest::lived);
        for (int nobody : NOBODY) {
            some.refused("part " + nobody, g -> Refusal.of(g.part(nobody)), 0, 0);
        }
        some.refused("part NONE", g -> Refusal.of(g.part(NONE)), 0, 0);
        Refusal alone = new Refusal(due, () -> joined(FOUR, 0, 11));
        alone.refused("part one who is alone", g -> Refusal.of(g.part(1)), 0, 2);
        alone.refused("part a RIGHT one who is alone", g -> Refusal.of(g.part(10)), 0, 2);
        alone.taken("part by LEFT", g -> Refusal.of(g.part(0)) * 10 + g.pairs(0, 0), 10);
        alone.taken("part by RIGHT", g -> Refusal.of(g.part(11)) * 10 + g.pairs(0, 0), 10);
        Refusal twice = new Refusal(due, () -> {
            MayGreen g = joined(FOUR, 0, 11);
            g.part(11);
            return g;
        });
        twice.refused("part twice", g -> Refusal.of(g.part(11)), 0, 2);
        twice.refused("part the other one then", g -> Refusal.of(g.part(0)), 0, 2);
        noCowAndNoLog();
    }

    private static void noCowAndNoLog() {
        MayGreen g = Village.of("left a 0;right p 0;fit a p 16;child 16 1;cow 99;ahead 1;");
        g.may(4);
        int earned = g.earned(0);
        g.part(0);
        due.is("no COW", g.earned(0), earned);
        due.is("no COW for p", g.earned(10), earned);
        due.is("no LOG", g.log(NONE, 0), 0);
        due.is("no YESES", g.two(0, 10, 4), 0);
        due.is("no years", g.person(0, 2) + g.person(10, 2), 0);
        due.is("KNOWN", g.two(0, 10, 0), 4);
        due.is("CHILDREN", g.two(0, 10, 2), 4);
        due.is("the YEAR", g.count(2), 4);
        g.may(1);
        due.is("anew the same May", g.person(0, 2), 1);
    }

    // Promise 25.

    /** Whoever of them is PAIRED leaves at once: four rows a May, of pairs by hand. */
    private static MayGreen ending(int mays) {
        MayGreen g = Village.of("left a 99;left b 99;left c 99;left d 99;right p 99;right q 99;right r 99;right s 99;ahead 1;");
        goOnEnding(g, mays);
        return g;
    }

    private static void goOnEnding(MayGreen g, int mays) {
        for (int k = 0; k < mays; k++) {
            for (int left = 0; left < 4; left++) {
                g.join(left, 10 + (left + k) % 4);
            }
            g.may(1);
        }
    }

    private static void log() {
        MayGreen none = new MayGreen();
        MayGreen some = joined("left a 99;right p 0;ahead 1;", 0, 10);
        due.is("no rows", some.log(NONE, 0), 0);
        some.may(1);
        due.is("a row", some.log(NONE, 0), 1);
        for (int what = 0; what <= 4; what++) {
            due.is("no rows without a VILLAGE", none.log(NONE, what), 0);
            due.is("no row without a VILLAGE", none.log(0, what), NONE);
            for (int k : new int[] {LEAST, -3, -2, 1, 2, 39, 40, 41, MOST}) {
                due.is("no row " + k, some.log(k, what), NONE);
            }
        }
        for (int other : new int[] {LEAST, -1, 5, 6, MOST}) {
            due.is("log, what " + other, some.log(0, other), NONE);
        }
        rowsUpToForty();
        yearsOfARow();
    }

    private static void rowsUpToForty() {
        MayGreen g = ending(9);
        due.is("36", g.log(NONE, 0), 36);
        goOnEnding(g, 1);
        due.is("40", g.log(NONE, 0), 40);
        due.is("the eldest of 40", g.log(0, 0) * 10000 + g.log(0, 1) * 100 + g.log(0, 2), 10);
        due.is("the latest of 40", g.log(39, 0) * 10000 + g.log(39, 1) * 100 + g.log(39, 2), 90000 + 313);
        due.is("no 41st", g.log(40, 0), NONE);
        g.join(1, 12);
        g.may(1);
        due.is("41 are 40", g.log(NONE, 0), 40);
        due.is("the eldest of 41 is gone", g.log(0, 0) * 10000 + g.log(0, 1) * 100 + g.log(0, 2), 111);
        due.is("the latest of 41", g.log(39, 0) * 10000 + g.log(39, 1) * 100 + g.log(39, 2), 100000 + 112);
        due.is("no 41st still", g.log(40, 0), NONE);
        MayGreen many = ending(25);
        due.is("100 are 40", many.log(NONE, 0), 40);
        for (int row = 0; row < 40; row++) {
            int year = 15 + row / 4;
            due.is("the YEAR", many.log(row, 0), year);
            due.is("LEFT", many.log(row, 1), row % 4);
            due.is("RIGHT", many.log(row, 2), 10 + (row + year) % 4);
            due.is("who was SILENT", many.log(row, 4), 3);
        }
    }

    private static void yearsOfARow() {
        // p is GOOD by 1000 thousandths till the first POOR year.
        MayGreen g = joined("left a 0;right p 0;right q 0;think a p 16 16 0;think a q 16 15 0;fit a p 9;ahead 1;", 0, 10);
        int years = 0;
        for (int k = 0; k < 20 && g.log(NONE, 0) == 0; k++) {
            g.may(1);
            if (g.log(NONE, 0) == 0) {
                years++;
            }
        }
        due.is("it ended", g.log(NONE, 0), 1);
        due.is("behind more than a year", years > 1, true);
        due.is("how many years they had on end", g.log(0, 3), years);
        due.is("the YEAR as it ended", g.log(0, 0), years);
        due.is("a was SILENT", g.log(0, 4), 1);
    }

    // Promise 26.

    private static void blocks() {
        MayGreen none = new MayGreen();
        due.is("0 without a VILLAGE", none.blocks(NONE), 0);
        for (int k : new int[] {LEAST, -2, 0, 1, 15, 16, MOST}) {
            due.is("no couple " + k + " without a VILLAGE", none.blocks(k), NONE);
        }
        MayGreen full = Village.of(EIGHT);
        due.is("16 couples", full.blocks(NONE), 16);
        for (int k = 0; k < 16; k++) {
            due.is("couple " + k, full.blocks(k), k / 4 * 100 + 10 + k % 4);
        }
        for (int k : new int[] {LEAST, -3, -2, 16, 17, MOST}) {
            due.is("no couple " + k, full.blocks(k), NONE);
        }
        MayGreen ready = Village.of("left a 99;right p 0;");
        due.is("no couple", ready.blocks(NONE), 0);
        due.is("not the first", ready.blocks(0), NONE);
        soonerThanWhomTheyHave();
        blocksByWhatIsKnown();
        blocksWithoutTheHouse();
        blocksOfThoseWhoWould();
    }

    private static void soonerThanWhomTheyHave() {
        MayGreen g = Village.of(FOUR);
        g.join(0, 10);
        due.is("a has p, of like ones less: a and q no; b and p no; b and q", g.blocks(NONE), 1);
        due.is("b and q", g.blocks(0), 111);
        g.part(0);
        g.join(0, 11);
        due.is("a has q: p's number is less", g.blocks(NONE), 2);
        due.is("a and p", g.blocks(0), 10);
        due.is("b and p, who is alone", g.blocks(1), 110);
        g.join(1, 10);
        due.is("a and p: p likes a's number", g.blocks(NONE), 1);
        due.is("a and p still", g.blocks(0), 10);
        MayGreen ring = Village.of(RING);
        for (int left = 0; left < 4; left++) {
            ring.join(left, 10 + left);
        }
        due.is("each LEFT one has the best", ring.blocks(NONE), 0);
        MayGreen turned = Village.of(RING);
        for (int left = 0; left < 4; left++) {
            turned.join(left, 10 + (left + 2) % 4);
        }
        // Each has one of two whom they like alike, and would sooner have the third or the less number.
        due.is("none has the best", turned.blocks(NONE), 4);
        due.is("a and p", turned.blocks(0), 10);
        due.is("a and q, by numbers", turned.blocks(1), 11);
        due.is("b and p", turned.blocks(2), 110);
        due.is("b and q", turned.blocks(3), 111);
        due.is("nobody sooner than oneself", Village.of(FOUR).blocks(4), NONE);
    }

    private static void blocksByWhatIsKnown() {
        MayGreen g = joined(FOUR + "fit a p 0;fit b q 16;cow 999;ahead 1;worth 10 1;", 0, 10);
        g.join(1, 11);
        g.may(1);
        // a and p 4375 of each other, b and q 6625; a and q 5500, but q has b for more.
        due.is("only q and b, p and a would mind", g.blocks(NONE), 0);
        MayGreen child = joined(FOUR + "fit a p 0;fit b q 0;child 16 2;cow 999;ahead 1;", 0, 10);
        child.join(1, 11);
        child.may(1);
        due.is("3750 and a CHILD of 2", child.blocks(NONE), 0);
        MayGreen none = joined(FOUR + "fit a p 0;fit b q 0;child 16 1;cow 999;ahead 1;", 0, 10);
        none.join(1, 11);
        none.may(1);
        due.is("3750 and a CHILD of 1", none.blocks(NONE), 2);
        due.is("a and q", none.blocks(0), 11);
        due.is("b and p", none.blocks(1), 110);
    }

    private static void blocksWithoutTheHouse() {
        MayGreen g = joined(FOUR + "fit a p 0;fit b q 0;house 1 99;ahead 1;cow 9;", 0, 10);
        g.join(1, 11);
        g.may(2);
        due.is("they stay for the house", g.two(0, 10, 4), 2);
        due.is("and would sooner, no house counted", g.blocks(NONE), 2);
    }

    private static void blocksOfThoseWhoWould() {
        due.is("LEFT likes as much as ALONE", Village.of("left a 5;right p 0;").blocks(NONE), 0);
        due.is("RIGHT likes as much as ALONE", Village.of("left a 0;right p 5;").blocks(NONE), 0);
        due.is("both more", Village.of("left a 4;right p 4;").blocks(NONE), 1);
        MayGreen pair = joined("left a 99;left b 0;right p 0;", 0, 10);
        due.is("a pair that neither WOULD is none", pair.blocks(NONE), 0);
        MayGreen hand = joined("left a 99;left b 0;right p 0;think p a 16 0 0;", 0, 10);
        due.is("b, whom p would have more soon than a", hand.blocks(NONE), 1);
        due.is("b and p", hand.blocks(0), 110);
    }

    // Promise 27.

    private static void parents() {
        MayGreen none = new MayGreen();
        for (int person : new int[] {NONE, 0, 10}) {
            due.is("parents without a VILLAGE", none.parents(person), VOID);
        }
        MayGreen g = Village.of(FOUR);
        for (int nobody : NOBODY) {
            due.is("parents of " + nobody, g.parents(nobody), VOID);
            due.is("parents without a VILLAGE of " + nobody, none.parents(nobody), VOID);
        }
        StringBuilder cross = new StringBuilder(EIGHT);
        for (int k = 0; k < 4; k++) {
            cross.append("fit " + "abcd".charAt(k) + " " + "srqp".charAt(k) + " 16;");
        }
        MayGreen full = Village.of(cross.toString());
        due.is("4 pairs of 320", full.parents(NONE), 1280);
        for (int k = 0; k < 4; k++) {
            due.is("LEFT " + k, full.parents(k), 13 - k);
            due.is("RIGHT " + k, full.parents(10 + k), 3 - k);
        }
        likeWays();
        sumOfAll();
        untriedSums();
    }

    private static void likeWays() {
        MayGreen alone = Village.of("left a 5;left b 5;right p 5;right q 5;");
        due.is("alike alone: 320", alone.parents(NONE), 320);
        due.is("nobody ahead of all", alone.parents(0) + alone.parents(1) + alone.parents(10) + alone.parents(11), 4 * NONE);
        MayGreen all = Village.of(EIGHT);
        for (int k = 0; k < 4; k++) {
            due.is("then the least number", all.parents(k), 10 + k);
        }
        MayGreen three = Village.of("left a 0;left b 0;left c 0;left d 0;right p 0;right q 0;right r 0;");
        due.is("nobody for LEFT 0", three.parents(0), NONE);
        due.is("then LEFT 1's least", three.parents(1), 10);
        due.is("LEFT 2's", three.parents(2), 11);
        due.is("LEFT 3's", three.parents(3), 12);
        MayGreen left = Village.of("left a 0;left b 0;right p 0;right q 0;right r 0;right s 0;");
        due.is("LEFT 0's least", left.parents(0), 10);
        due.is("LEFT 1's least", left.parents(1), 11);
        due.is("nobody for s", left.parents(13), NONE);
        MayGreen nothing = Village.of("left a 0;right p 0;worth 0 0;");
        due.is("a sum of 0", nothing.parents(NONE), 0);
        due.is("nobody by a sum of 0", nothing.parents(0), NONE);
        MayGreen one = Village.of("left a 0;right p 0;worth 1 0;fit a p 1;");
        due.is("a sum of 2 sixteenths", one.parents(NONE), 2);
        due.is("p by 2", one.parents(0), 10);
    }

    private static void sumOfAll() {
        MayGreen g = Village.of("left a 99;left b 99;left c 99;left d 99;right p 99;right q 99;right r 99;right s 99;worth 99 0;fit a p 16;");
        due.is("as much alone", g.parents(NONE), 8 * 16 * 99);
        due.is("nobody for a", g.parents(0), NONE);
        MayGreen both = Village.of("left a 99;right p 0;worth 99 0;fit a p 9;");
        due.is("2 * 9 * 99 is more than 16 * 99", both.parents(NONE), 2 * 9 * 99);
        due.is("a has p", both.parents(0), 10);
        MayGreen less = Village.of("left a 99;right p 0;worth 99 0;fit a p 8;");
        due.is("2 * 8 * 99 is as much", less.parents(0), NONE);
        MayGreen poor = Village.of("left a 0;right p 0;worth 0 99;fit a p 0;");
        due.is("16 * 99 twice by V", poor.parents(NONE), 2 * 16 * 99);
    }

    private static void untriedSums() {
        MayGreen g = Village.of(FOUR + "house 1 99;child 16 99;cow 999;");
        g.may(9);
        due.is("no house, no CHILDREN", g.parents(NONE), 320);
    }

    // Promise 28.

    private static void life() {
        MayGreen none = new MayGreen();
        MayGreen g = Village.of(FOUR);
        for (int what = 0; what <= 1; what++) {
            due.is("life without a VILLAGE", none.life(1, what), VOID);
            for (int years : new int[] {LEAST, -1, 0, 101, 102, MOST}) {
                due.is("life of " + years, g.life(years, what), VOID);
            }
        }
        for (int other : new int[] {LEAST, -1, 2, 3, MOST}) {
            due.is("life, what " + other, g.life(1, other), VOID);
            due.is("life of 100, what " + other, g.life(100, other), VOID);
        }
        due.is("1 year", g.life(1, 0), 320);
        due.is("100 years", g.life(100, 0), 32000);
        due.is("as by the PARENTS", g.life(1, 1) + g.life(100, 1), 0);
        houseOfALife();
        nothingKnownOfALife();
        lifeAgainstTheParents();
        greatestLife();
    }

    private static void houseOfALife() {
        MayGreen g = Village.of("left a 0;right p 0;house 9 7;left z 3;think z p 16 0 0;worth 10 10;");
        // z, who wouldn't, is alone for 3; a and p are together for 10 each.
        due.is("9 years: no house", g.life(9, 0), 9 * (320 + 0) + 9 * 16 * 3);
        due.is("10 years: a house for both", g.life(10, 0), 10 * (320 + 48) + 2 * 16 * 7);
        due.is("11 years: twice", g.life(11, 0), 11 * (320 + 48) + 4 * 16 * 7);
        MayGreen one = Village.of("left a 0;right p 0;house 1 7;");
        due.is("1 year", one.life(1, 0), 160);
        due.is("2 years", one.life(2, 0), 320 + 2 * 16 * 7);
        due.is("house for both", one.life(2, 1), 0);
        MayGreen alone = Village.of("left a 99;right p 99;house 1 99;");
        due.is("no house alone", alone.life(100, 0), 2 * 16 * 99 * 100);
        due.is("nor by the PARENTS", alone.life(100, 1), 0);
    }

    private static void nothingKnownOfALife() {
        String text = FOUR + "fit a p 0;fit b q 16;fit a q 5;fit b p 6;cow 999;ahead 1;";
        MayGreen g = Village.of(text);
        int sum = 2 * (0 + 16) * 10;
        due.is("a with p, b with q", g.life(1, 0), sum);
        g.join(0, 11);
        g.join(1, 10);
        g.may(9);
        due.is("whatever is KNOWN", g.life(1, 0), sum);
        due.is("whoever is PAIRED", g.life(1, 1), sum - g.parents(NONE));
        MayGreen child = Village.of("left a 0;right p 0;child 16 99;house 1 0;cow 999;");
        child.may(5);
        due.is("without CHILDREN", child.life(10, 0), 1600);
        due.is("without CHILDREN both", child.life(10, 1), 0);
    }

    private static void lifeAgainstTheParents() {
        // a and b like p most, who likes b: b with p, a with q; the PARENTS would a with p, b with q.
        MayGreen g = Village.of(FOUR + "think a p 16 12 0;think b p 16 12 0;think p b 16 12 0;fit a p 16;fit b q 16;fit a q 1;fit b p 2;house 2 5;");
        due.is("60 by 640", g.life(1, 1), 60 - 640);
        due.is("3 years, the house for both", g.life(3, 1), 3 * (60 - 640));
        MayGreen ring = Village.of(RING + "fit a p 0;fit b q 0;fit c r 0;fit d s 0;fit a s 16;fit b p 16;fit c q 16;");
        due.is("as the LEFT ones ask", ring.life(1, 0), 0);
        due.is("by 3 of 320 and one of 160", ring.life(1, 1), -3 * 320 - 160);
        MayGreen like = Village.of("left a 5;right p 5;fit a p 16;");
        due.is("as much as ALONE, nothing being KNOWN", like.life(1, 0), 160);
        due.is("by 320", like.life(1, 1), 160 - 320);
        MayGreen shy = Village.of("left a 4;right p 4;think a p 16 0 0;fit a p 16;house 2 5;");
        due.is("alone for life", shy.life(1, 0), 128);
        due.is("by the PARENTS 320", shy.life(1, 1), 128 - 320);
        due.is("and the house in the third year", shy.life(3, 1), 3 * (128 - 320) - 2 * 16 * 5);
        MayGreen more = Village.of("left a 9;right p 9;house 1 99;think a p 16 16 16;think p a 16 16 16;");
        due.is("wed, for 160 by 288", more.life(1, 1), 160 - 288);
        due.is("more, by the house, than those who are alone", more.life(2, 1), 2 * (160 - 288) + 2 * 16 * 99);
    }

    private static void greatestLife() {
        MayGreen g = Village.of(EIGHT + "worth 99 99;house 1 99;");
        due.is("eight for 100 years", g.life(100, 0), 8 * 16 * (99 * 100 + 99 * 99));
    }

    // Promise 29.

    private static void never() {
        MayGreen none = new MayGreen();
        MayGreen g = Village.of(FOUR);
        for (int what : new int[] {LEAST, -1, 0, 1, 2, 3, MOST}) {
            due.is("never without a VILLAGE, what " + what, none.never(what), VOID);
        }
        for (int what : new int[] {LEAST, -1, 2, 3, MOST}) {
            due.is("never, what " + what, g.never(what), VOID);
        }
        due.is("two pairs", g.never(0), 2);
        due.is("320 by none", g.never(1), 320);
        MayGreen full = Village.of(EIGHT + "cow 999;ahead 1;");
        due.is("four pairs", full.never(0), 4);
        due.is("640", full.never(1), 640);
        for (int k = 0; k < 4; k++) {
            full.join(k, 10 + k);
            due.is("PAIRED, but not tried", full.never(0), 4);
            due.is("not LOST", full.never(1), 160 * (3 - k));
        }
        full.may(1);
        due.is("all tried", full.never(0), 0);
        due.is("nothing LOST", full.never(1), 0);
        triedOnceIsTried();
        MayGreen alone = Village.of("left a 9;right p 9;");
        due.is("no pair of the PARENTS' way", alone.never(0), 0);
        due.is("nothing LOST alone", alone.never(1), 0);
        alone.join(0, 10);
        due.is("LOST by a pair", alone.never(1), 288 - 160);
    }

    private static void triedOnceIsTried() {
        for (int fit : new int[] {0, 16}) {
            MayGreen g = joined("left a 0;right p 0;fit a p " + fit + ";worth 9 8;cow 999;ahead 1;", 0, 10);
            due.is("not yet", g.never(0), 1);
            g.may(1);
            due.is("by F " + fit, g.never(0), 0);
            g.part(0);
            due.is("tried though parted", g.never(0), 0);
            due.is("LOST though tried", g.never(1), 2 * (fit * 9 + (16 - fit) * 8));
        }
        MayGreen both = joined("left a 0;right p 0;cow 999;ahead 1;", 0, 10);
        both.may(20);
        due.is("GOOD and POOR years", both.two(0, 10, 0) * both.two(0, 10, 1) > 0, true);
        due.is("tried", both.never(0), 0);
    }

    // Promise 30.

    private static void pairs() {
        MayGreen none = new MayGreen();
        MayGreen g = joined(FOUR, 0, 11);
        for (int m : new int[] {LEAST, -2, -1, 101, 102, MOST}) {
            for (int what : new int[] {LEAST, -1, 0, 1, 2, MOST}) {
                due.is("pairs of " + m + ", what " + what, g.pairs(m, what), NONE);
                due.is("pairs without a VILLAGE", none.pairs(m, what), NONE);
            }
        }
        for (int m : new int[] {0, 1, 99, 100}) {
            due.is("all pairs, m " + m, g.pairs(m, 0), 1);
            due.is("pairs of YESES, m " + m, g.pairs(m, 1), m == 0 ? 1 : 0);
            due.is("none without a VILLAGE", none.pairs(m, 0) + none.pairs(m, 1), 0);
            for (int what : new int[] {LEAST, -1, 2, 3, MOST}) {
                due.is("pairs, what " + what, g.pairs(m, what), NONE);
            }
        }
        eachNumberOfYeses();
        fullVillageOfPairs();
    }

    private static void eachNumberOfYeses() {
        MayGreen g = joined("left a 0;right p 0;cow 999;ahead 1;", 0, 10);
        for (int yeses = 0; yeses <= 101; yeses++) {
            int m = Math.min(100, yeses);
            due.is("as many", g.pairs(m, 1), 1);
            due.is("one more", g.pairs(m + 1, 1), m == 100 ? NONE : 0);
            g.may(1);
        }
    }

    private static void fullVillageOfPairs() {
        MayGreen g = Village.of(EIGHT + "cow 999;ahead 1;");
        g.may(1);
        due.is("four", g.pairs(0, 0), 4);
        for (int left = 3; left >= 0; left--) {
            g.may(1);
            due.is("all four were asked", g.pairs(1, 1), 4);
            g.part(left);
            due.is("one less", g.pairs(0, 0), 3);
            due.is("three of YESES", g.pairs(1, 1), 3);
            g.join(left, 10 + left);
            due.is("four again, one without YESES", g.pairs(0, 1) * 10 + g.pairs(1, 1), 43);
        }
    }

    // Promise 31.

    private static void image() {
        Refusal some = new Refusal(due, MayEdgeTest::lived);
        for (int k : new int[] {LEAST, -2, -1, 3, 4, MOST}) {
            some.refused("image " + k, g -> Refusal.of(g.image(k)), 0, 0);
            new Refusal(due, MayGreen::new).refused("image without a VILLAGE " + k, g -> Refusal.of(g.image(k)), 0, 0);
        }
        for (int k = 0; k <= 2; k++) {
            int image = k;
            some.taken("image " + k, g -> Refusal.of(g.image(image)), 1);
        }
        for (int k = 0; k <= 2; k++) {
            for (int other = 0; other <= 2; other++) {
                MayGreen g = Village.of(FOUR);
                g.image(k);
                due.is("image " + k + " alone is there", g.on(other), other == k);
            }
        }
        imageTakesThePlaceOfTheOneAhead();
    }

    private static void imageTakesThePlaceOfTheOneAhead() {
        MayGreen g = Village.of(FOUR);
        for (int k = 0; k <= 2; k++) {
            g.image(k);
            g.may(1);
        }
        g.image(1);
        int[] years = {0, 3, 2};
        for (int k = 2; k >= 0; k--) {
            due.is("image " + k, g.on(k), true);
            due.is("its YEAR", g.count(2), years[k]);
        }
    }

    // Promise 32.

    private static void on() {
        Refusal some = new Refusal(due, MayEdgeTest::lived);
        for (int k : new int[] {LEAST, -2, -1, 0, 2, 3, 4, MOST}) {
            some.refused("on " + k, g -> Refusal.of(g.on(k)), 0, 0);
        }
        some.taken("on", g -> Refusal.of(g.on(1)) * 10 + g.count(2), 13);
        some.taken("on twice", g -> Refusal.of(g.on(1)) * 10 + Refusal.of(g.on(1)), 11);
        new Refusal(due, () -> Village.of(FOUR)).refused("on, none kept", g -> Refusal.of(g.on(0)), 0, 0);
        for (int chapters = 0; chapters <= 3; chapters++) {
            allThatAnImageKeeps(chapters);
        }
        imageKeepsTheLog();
        whatAnImageDoesNotKeep();
    }

    private static MayGreen story() {
        return Village.of("left a 0;left b 1;left c 0;right p 0;right q 2;right r 0;think a p 8 16 0;fit a p 0;fit b q 15;"
            + "think c p 9 16 0;child 9 2;cow 1;ahead 1;house 1 3;");
    }

    private static void chapter(MayGreen g, int k) {
        g.way(3 - k);
        g.seed(1000 * k + 7);
        g.part(k % 3);
        g.join(2, 10 + k % 3);
        g.may(k + 2);
    }

    private static void allThatAnImageKeeps(int chapters) {
        MayGreen then = story();
        MayGreen g = story();
        for (int k = 0; k < chapters; k++) {
            chapter(then, k);
            chapter(g, k);
        }
        g.image(2);
        chapter(g, 3);
        chapter(g, 4);
        due.is("on", g.on(2), true);
        then.image(2);
        due.is("as it was behind " + chapters, Seen.of(g).equals(Seen.of(then)), true);
        due.is("and as it goes on behind " + chapters, Seen.goingOn(g).equals(Seen.goingOn(then)), true);
    }

    private static void imageKeepsTheLog() {
        MayGreen g = ending(11);
        g.image(0);
        goOnEnding(g, 3);
        g.on(0);
        due.is("40 rows", g.log(NONE, 0), 40);
        for (int row = 0; row < 40; row++) {
            due.is("the YEAR", g.log(row, 0), 1 + row / 4);
            due.is("LEFT and RIGHT", g.log(row, 1) * 100 + g.log(row, 2), row % 4 * 100 + 10 + (row + 1 + row / 4) % 4);
        }
        MayGreen none = ending(0);
        none.image(0);
        goOnEnding(none, 11);
        none.on(0);
        due.is("no rows", none.log(NONE, 0), 0);
        due.is("no row", none.log(0, 0), NONE);
        goOnEnding(none, 1);
        due.is("four rows anew", none.log(NONE, 0), 4);
        due.is("the first", none.log(0, 0) * 100 + none.log(0, 1), 0);
    }

    private static void whatAnImageDoesNotKeep() {
        MayGreen g = Village.of(FOUR);
        g.image(0);
        Village.write(g, "left");
        g.way(9);
        g.seed(-1);
        g.on(0);
        due.is("the text is as it was", g.count(5), 4);
        due.is("what was REFUSED", g.status(0) * 10 + g.status(2), 11);
        g.way(2);
        g.on(0);
        due.is("the WAY is kept", g.count(3), 0);
    }

    // Promise 33.

    private static void status() {
        MayGreen g = new MayGreen();
        for (int reason : new int[] {LEAST, -1, 3, 4, MOST}) {
            due.is("status " + reason, g.status(reason), NONE);
        }
        for (int k = 1; k <= 30; k++) {
            g.way(4);
            g.seed(-1);
            due.is("none such", g.status(0), k);
            due.is("no room", g.status(1), 0);
            due.is("can't be", g.status(2), k);
        }
        MayGreen full = new MayGreen();
        for (int k = 0; k < 25; k++) {
            full.feed(0, 0, 0, 0, 0);
        }
        for (int k = 1; k <= 30; k++) {
            full.feed(0, 0, 0, 0, 0);
            due.is("no room", full.status(1), k);
        }
        due.is("none for others", full.status(0) + full.status(2), 0);
        full.fault();
        due.is("a FAULT isn't REFUSED", full.status(0) + full.status(1) + full.status(2), 30);
        for (int reason : new int[] {LEAST, -1, 3, 4, MOST}) {
            due.is("status " + reason, full.status(reason), NONE);
        }
    }
}
