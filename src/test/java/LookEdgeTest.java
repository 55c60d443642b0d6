/** The edges that promises 6 to 18 name, and the sentences they rest on, each by a test of its own. */
final class LookEdgeTest {
    private static final int NONE = MayGreen.NONE;
    private static final int VOID = MayGreen.VOID;
    private static final int LEAST = Integer.MIN_VALUE;
    private static final int MOST = Integer.MAX_VALUE;
    private static final String[] LEFTS = {"a", "b", "c", "d"};
    private static final String[] RIGHTS = {"p", "q", "r", "s"};
    static final String EIGHT = "left a 1;left b 2;left c 3;left d 4;right p 5;right q 6;right r 7;right s 8;";
    private static final String FOUR = "left a 1;left b 2;right p 3;right q 4;";
    /** Nobody of a village of two LEFT and two RIGHT ones. */
    private static final int[] NOBODY = {LEAST, -100, -2, -1, 2, 3, 4, 9, 12, 13, 14, 100, MOST};
    private static final int[] NO_MAYS = {LEAST, -1, 0, 5, 6, MOST};
    /** p brings nothing for sure and q 10000 for sure, and both know it of nobody. */
    private static final String SURE = "left a 0;right p 0;right q 0;think a p 16 0 0;think a q 16 16 0;ahead 1;";
    private static final Due due = new Due("LookEdgeTest");

    public static void main(String[] args) {
        person();
        earned();
        two();
        think();
        shown();
        liking();
        sooner();
        best();
        act();
        silent();
        bar();
        price();
        waits();
        askingIsNeverRefused();
        due.close();
    }

    /** May after May of those who are PAIRED, one at a time. */
    private static MayGreen after(MayGreen g, int mays) {
        for (int k = 0; k < mays; k++) {
            g.may(1);
        }
        return g;
    }

    // Promise 6.

    private static void person() {
        MayGreen g = Village.of(FOUR);
        for (int nobody : NOBODY) {
            for (int what = 0; what <= 2; what++) {
                due.is("person " + nobody, g.person(nobody, what), VOID);
            }
        }
        for (int other : new int[] {LEAST, -1, 3, 4, MOST}) {
            due.is("person, what " + other, g.person(0, other), VOID);
            due.is("person 11, what " + other, g.person(11, other), VOID);
            due.is("nobody, what " + other, g.person(2, other), VOID);
        }
        eachOfEightPeople();
        yearsOnEnd();
    }

    private static void eachOfEightPeople() {
        MayGreen g = Village.of(EIGHT + "cow 999;");
        for (int k = 0; k < 4; k++) {
            due.is("ALONE of LEFT " + k, g.person(k, 0), 1 + k);
            due.is("ALONE of RIGHT " + k, g.person(10 + k, 0), 5 + k);
            due.is("LEFT with NONE", g.person(k, 1), NONE);
            due.is("RIGHT with NONE", g.person(10 + k, 1), NONE);
        }
        for (int k = 0; k < 4; k++) {
            g.join(k, 13 - k);
        }
        for (int k = 0; k < 4; k++) {
            due.is("LEFT with the other end", g.person(k, 1), 13 - k);
            due.is("RIGHT with the other end", g.person(10 + k, 1), 3 - k);
            due.is("no YEAR yet", g.person(k, 2) + g.person(10 + k, 2), 0);
        }
        g.may(2);
        for (int k = 0; k < 4; k++) {
            due.is("LEFT for 2 years", g.person(k, 2), 2);
            due.is("RIGHT for 2 years", g.person(10 + k, 2), 2);
        }
        g.part(3);
        due.is("alone: 0 years", g.person(3, 2), 0);
        due.is("alone: 0 years for RIGHT", g.person(10, 2), 0);
        due.is("ALONE goes on", g.person(10, 0), 5);
    }

    private static void yearsOnEnd() {
        MayGreen g = Village.of("left a 0;right p 0;cow 999;ahead 1;");
        g.may(50);
        due.is("50 years on end", g.person(0, 2), 50);
        g.may(50);
        g.may(50);
        due.is("150 years on end", g.person(10, 2), 150);
    }

    // Promise 7.

    private static void earned() {
        MayGreen g = Village.of(FOUR);
        for (int nobody : NOBODY) {
            due.is("earned by " + nobody, g.earned(nobody), VOID);
        }
        MayGreen alone = Village.of("left a 99;left b 98;left c 97;left d 96;right p 95;right q 94;right r 93;right s 92;");
        for (int k = 0; k < 4; k++) {
            due.is("nothing by LEFT " + k, alone.earned(k), 0);
            due.is("nothing by RIGHT " + k, alone.earned(10 + k), 0);
        }
        alone.may(2);
        for (int k = 0; k < 4; k++) {
            due.is("ALONE twice by LEFT " + k, alone.earned(k), 2 * (99 - k));
            due.is("ALONE twice by RIGHT " + k, alone.earned(10 + k), 2 * (95 - k));
        }
        earnedBelowNothing();
        yearTogetherByAllOfIt();
    }

    private static void earnedBelowNothing() {
        // Both would rather be alone: each pays 999, then has 99 and 98.
        MayGreen g = Village.of("left a 99;right p 98;worth 0 0;cow 999;ahead 4;");
        g.join(0, 10);
        g.may(1);
        due.is("to stay for 4 Mays is worth nothing, alone less than 999", g.earned(0), 0);
        MayGreen cheap = Village.of("left a 99;right p 98;worth 0 0;cow 390;ahead 4;");
        cheap.join(0, 10);
        cheap.may(1);
        due.is("a leaves: 396 by 390", cheap.earned(0), 99 - 390);
        due.is("p leaves: 392 by 390", cheap.earned(10), 98 - 390);
        MayGreen one = Village.of("left a 99;right p 97;worth 0 0;cow 390;ahead 4;");
        one.join(0, 10);
        one.may(1);
        due.is("a pays", one.earned(0), 99 - 390);
        due.is("p would stay and pays none", one.earned(10), 97);
        MayGreen other = Village.of("left a 97;right p 99;worth 0 0;cow 390;ahead 4;");
        other.join(0, 10);
        other.may(1);
        due.is("a would stay and pays none", other.earned(0), 97);
        due.is("p pays", other.earned(10), 99 - 390);
    }

    private static void yearTogetherByAllOfIt() {
        MayGreen g = Village.of("left a 0;right p 0;fit a p 16;worth 99 98;house 9 97;child 16 99;cow 999;");
        int sum = 0;
        for (int years = 0; years < 12; years++) {
            g.may(1);
            sum += 99 + (years >= 9 ? 97 : 0) + 99 * years;
            due.is("the year behind " + years, g.earned(0), sum);
        }
        MayGreen poor = Village.of("left a 0;right p 0;fit a p 0;worth 99 98;house 1 97;child 0 99;cow 999;");
        poor.may(1);
        due.is("V, no house in the first", poor.earned(10), 98);
        poor.may(1);
        due.is("V and the house behind one year", poor.earned(10), 98 + 195);
        poor.part(0);
        poor.join(0, 10);
        poor.may(1);
        due.is("no house anew: not on end", poor.earned(10), 98 + 195 + 98);
    }

    // Promise 8.

    private static void two() {
        MayGreen g = Village.of(FOUR);
        for (int what = 0; what <= 4; what++) {
            for (int nobody : NOBODY) {
                due.is("two of " + nobody, g.two(nobody, 10, what) + g.two(nobody, 0, what), 2 * NONE);
                due.is("two with " + nobody, g.two(0, nobody, what) + g.two(10, nobody, what), 2 * NONE);
            }
            due.is("two of like SIDES", g.two(0, 1, what) + g.two(11, 10, what), 2 * NONE);
            due.is("two of one", g.two(1, 1, what) + g.two(10, 10, what), 2 * NONE);
        }
        for (int other : new int[] {LEAST, -1, 5, 6, MOST}) {
            due.is("two, what " + other, g.two(0, 10, other), NONE);
            due.is("two, RIGHT ahead, what " + other, g.two(11, 1, other), NONE);
        }
        eachFit();
        upToFourEach();
        ninetyNineChildren();
        eachOfSixteenCouples();
        yesesOfAPair();
    }

    private static void eachFit() {
        StringBuilder text = new StringBuilder(EIGHT);
        for (int left = 0; left < 4; left++) {
            for (int right = 0; right < 4; right++) {
                text.append("fit " + LEFTS[left] + " " + RIGHTS[right] + " " + (16 - 4 * left - right) + ";");
            }
        }
        MayGreen g = Village.of(text.toString());
        for (int left = 0; left < 4; left++) {
            for (int right = 0; right < 4; right++) {
                due.is("F", g.two(left, 10 + right, 3), 16 - 4 * left - right);
                due.is("F, RIGHT ahead", g.two(10 + right, left, 3), 16 - 4 * left - right);
                due.is("F without", Village.of(EIGHT).two(left, 10 + right, 3), 8);
            }
        }
    }

    private static void upToFourEach() {
        MayGreen good = Village.of("left a 0;right p 0;fit a p 16;cow 999;");
        MayGreen poor = Village.of("left a 0;right p 0;fit a p 0;cow 999;");
        for (int years = 1; years <= 7; years++) {
            good.may(1);
            poor.may(1);
            due.is("GOOD", good.two(0, 10, 0) * 10 + good.two(10, 0, 1), Math.min(4, years) * 10);
            due.is("POOR", poor.two(10, 0, 0) * 10 + poor.two(0, 10, 1), Math.min(4, years));
        }
        MayGreen both = Village.of("left a 0;right p 0;fit a p 8;cow 999;");
        both.may(50);
        due.is("4 of each", both.two(0, 10, 0) * 10 + both.two(0, 10, 1), 44);
    }

    private static void ninetyNineChildren() {
        MayGreen g = Village.of("left a 0;left b 0;right p 0;right q 0;child 16 1;cow 999;ahead 1;");
        g.may(50);
        g.may(48);
        due.is("98 CHILDREN", g.two(0, 10, 2), 98);
        g.may(1);
        due.is("99 CHILDREN", g.two(0, 10, 2), 99);
        g.may(1);
        due.is("99 at most", g.two(0, 10, 2), 99);
        due.is("99 at most of the others", g.two(11, 1, 2), 99);
        due.is("none of a and q", g.two(0, 11, 2), 0);
        g.part(0);
        due.is("99 behind the end", g.two(10, 0, 2), 99);
        g.join(0, 10);
        g.may(2);
        due.is("99 anew", g.two(10, 0, 2), 99);
    }

    /** All sixteen are together once, by four ways to pair; the way with `turn` for `turn` + 1 years. */
    static MayGreen allSixteen() {
        StringBuilder text = new StringBuilder(EIGHT);
        for (int left = 0; left < 4; left++) {
            for (int right = 0; right < 4; right++) {
                text.append("fit " + LEFTS[left] + " " + RIGHTS[right] + " " + (isGood(left, right) ? 16 : 0) + ";");
            }
        }
        MayGreen g = Village.of(text + "worth 10 2;house 2 5;child 16 1;cow 999;ahead 1;");
        for (int turn = 0; turn < 4; turn++) {
            for (int left = 0; left < 4; left++) {
                g.part(left);
            }
            for (int left = 0; left < 4; left++) {
                g.join(left, 10 + (left + turn) % 4);
            }
            g.may(turn + 1);
        }
        return g;
    }

    private static boolean isGood(int left, int right) {
        return (left * left + left + right * 3 + left * right) % 4 < 2;
    }

    private static void eachOfSixteenCouples() {
        MayGreen g = allSixteen();
        int[] lefts = new int[4];
        int[] rights = new int[4];
        for (int left = 0; left < 4; left++) {
            for (int right = 0; right < 4; right++) {
                int years = (right - left + 4) % 4 + 1;
                int good = isGood(left, right) ? years : 0;
                String couple = LEFTS[left] + " and " + RIGHTS[right];
                due.is("GOOD of " + couple, g.two(left, 10 + right, 0), good);
                due.is("POOR of " + couple, g.two(10 + right, left, 1), years - good);
                due.is("CHILDREN of " + couple, g.two(left, 10 + right, 2), years);
                due.is("YESES of " + couple, g.two(left, 10 + right, 4), years == 4 ? 4 : 0);
                for (int k = 0; k < years; k++) {
                    int worth = (good > 0 ? 10 : 2) + k + (k >= 2 ? 5 : 0);
                    lefts[left] += worth;
                    rights[right] += worth;
                }
            }
        }
        for (int k = 0; k < 4; k++) {
            due.is("EARNED by LEFT " + k, g.earned(k), lefts[k]);
            due.is("EARNED by RIGHT " + k, g.earned(10 + k), rights[k]);
        }
    }

    private static void yesesOfAPair() {
        MayGreen g = Village.of("left a 0;right p 0;right q 0;cow 999;ahead 1;");
        g.may(1);
        due.is("came together this May: not asked yet", g.two(0, 10, 4), 0);
        g.may(1);
        due.is("asked once", g.two(0, 10, 4), 1);
        g.part(0);
        due.is("0, if they are no pair", g.two(0, 10, 4), 0);
        g.join(0, 11);
        due.is("by hand", g.two(0, 11, 4), 0);
        g.may(1);
        due.is("asked at once", g.two(11, 0, 4), 1);
        due.is("0 of those who are no pair, though one of them is PAIRED", g.two(0, 10, 4), 0);
        g.may(50);
        due.is("51 on end", g.two(0, 11, 4), 51);
    }

    // Promise 9.

    private static void think() {
        MayGreen g = Village.of(FOUR);
        for (int what = 0; what <= 2; what++) {
            for (int nobody : NOBODY) {
                due.is("thought by " + nobody, g.think(nobody, 10, what) + g.think(nobody, 0, what), 2 * NONE);
                due.is("thought of " + nobody, g.think(0, nobody, what) + g.think(10, nobody, what), 2 * NONE);
            }
            due.is("thought of one's own SIDE", g.think(0, 1, what) + g.think(10, 11, what), 2 * NONE);
            due.is("thought of oneself", g.think(1, 1, what) + g.think(11, 11, what), 2 * NONE);
        }
        for (int other : new int[] {LEAST, -1, 3, 4, MOST}) {
            due.is("think, what " + other, g.think(0, 10, other) + g.think(11, 1, other), 2 * NONE);
        }
        eachThought(true);
        eachThought(false);
    }

    private static void eachThought(boolean byLeft) {
        StringBuilder text = new StringBuilder(EIGHT);
        for (int k = 0; k < 16; k++) {
            String left = LEFTS[k / 4];
            String right = RIGHTS[k % 4];
            text.append("think " + (byLeft ? left + " " + right : right + " " + left) + " " + (16 - k) + " " + (k + 1) + " " + k + ";");
        }
        MayGreen g = Village.of(text.toString());
        for (int k = 0; k < 16; k++) {
            int one = byLeft ? k / 4 : 10 + k % 4;
            int other = byLeft ? 10 + k % 4 : k / 4;
            due.is("C", g.think(one, other, 0), 16 - k);
            due.is("G", g.think(one, other, 1), k + 1);
            due.is("P", g.think(one, other, 2), k);
            due.is("C, G, P without", g.think(other, one, 0) * 10000 + g.think(other, one, 1) * 100 + g.think(other, one, 2), 81204);
            due.is("RIGHT by C", g.shown(one, other, 0), 1000 * (16 - k) / 16);
            due.is("GOOD by C, G, P", g.shown(one, other, 1), 1000 * ((16 - k) * (k + 1) + k * k) / 256);
            due.is("LIKING by it", g.liking(one, other), 10 * (1000 * ((16 - k) * (k + 1) + k * k) / 256));
            due.is("LIKING without", g.liking(other, one), 5000);
        }
    }

    // Promise 10.

    private static void shown() {
        MayGreen g = Village.of(FOUR);
        for (int what = 0; what <= 1; what++) {
            for (int nobody : NOBODY) {
                due.is("shown to " + nobody, g.shown(nobody, 10, what) + g.shown(nobody, 0, what), 2 * NONE);
                due.is("shown of " + nobody, g.shown(0, nobody, what) + g.shown(10, nobody, what), 2 * NONE);
            }
            due.is("shown of one's own SIDE", g.shown(0, 1, what) + g.shown(10, 11, what), 2 * NONE);
        }
        for (int other : new int[] {LEAST, -1, 2, 3, MOST}) {
            due.is("shown, what " + other, g.shown(0, 10, other) + g.shown(11, 1, other), 2 * NONE);
        }
        zeroToTheZeroIsOne();
        bothZeroIfNothingCanBe();
        fourYearsOfEach();
        moreThanFourChangeNothing();
        sureOnes();
    }

    private static void zeroToTheZeroIsOne() {
        MayGreen g = Village.of("left a 0;right p 0;think a p 4 0 0;think p a 4 16 16;fit a p 16;cow 999;");
        due.is("G 0, P 0: RIGHT by C", g.shown(0, 10, 0), 250);
        due.is("never GOOD", g.shown(0, 10, 1), 0);
        due.is("G 16, P 16: RIGHT by C", g.shown(10, 0, 0), 250);
        due.is("ever GOOD", g.shown(10, 0, 1), 1000);
        g.join(0, 10);
        after(g, 3);
        due.is("3 GOOD, no POOR: 0 ^ 0 for those who must be GOOD", g.shown(10, 0, 0), 250);
        due.is("still ever GOOD", g.shown(10, 0, 1), 1000);
    }

    private static void bothZeroIfNothingCanBe() {
        MayGreen g = Village.of("left a 0;right p 0;think a p 4 0 0;think p a 16 0 0;fit a p 16;cow 999;");
        g.join(0, 10);
        g.may(1);
        due.is("a GOOD year that couldn't be: RIGHT", g.shown(0, 10, 0), 0);
        due.is("GOOD", g.shown(0, 10, 1), 0);
        due.is("RIGHT to p", g.shown(10, 0, 0), 0);
        MayGreen poor = Village.of("left a 0;right p 0;think a p 4 16 16;think p a 0 16 16;fit a p 0;worth 9 4;cow 999;");
        poor.join(0, 10);
        poor.may(1);
        due.is("a POOR year that couldn't be: RIGHT", poor.shown(0, 10, 0), 0);
        due.is("GOOD then", poor.shown(0, 10, 1), 0);
        due.is("RIGHT to p then", poor.shown(10, 0, 0), 0);
        due.is("LIKING by V", poor.liking(0, 10), 4000);
        due.is("WORTH by V, Mays ahead too", poor.best(0, 2, 0), 8000);
        leastThatIsNotNothing();
        MayGreen one = Village.of("left a 0;right p 0;think a p 4 16 0;think p a 4 16 5;fit a p 0;cow 999;");
        one.join(0, 10);
        one.may(1);
        due.is("P 0 is left: not RIGHT", one.shown(0, 10, 0), 0);
        due.is("never GOOD then", one.shown(0, 10, 1), 0);
        due.is("P 5 is left: not RIGHT", one.shown(10, 0, 0), 0);
        due.is("GOOD by 5 of 16, cut", one.shown(10, 0, 1), 312);
    }

    private static void leastThatIsNotNothing() {
        MayGreen good = joined("left a 0;right p 0;think a p 1 1 0;fit a p 16;cow 999;", 0, 10);
        good.may(1);
        due.is("R 1, U 0", good.shown(0, 10, 0), 1000);
        due.is("1 of 16", good.shown(0, 10, 1), 62);
        MayGreen poor = joined("left a 0;right p 0;think a p 15 16 15;fit a p 0;cow 999;", 0, 10);
        poor.may(1);
        due.is("R 0, U 1", poor.shown(0, 10, 0), 0);
        due.is("15 of 16", poor.shown(0, 10, 1), 937);
    }

    private static MayGreen joined(String text, int left, int right) {
        MayGreen g = Village.of(text);
        g.join(left, right);
        return g;
    }

    private static void fourYearsOfEach() {
        MayGreen g = Village.of("left a 0;right p 0;think a p 15 8 6;think p a 16 9 0;cow 999;");
        g.may(50);
        due.is("4 GOOD, 4 POOR", g.two(0, 10, 0) * 10 + g.two(0, 10, 1), 44);
        // R 15 * 8^8 is 251658240, U 6^4 * 10^4 12960000: more than 32 bits, once they are counted in thousandths.
        due.is("RIGHT", g.shown(0, 10, 0), 951);
        due.is("GOOD", g.shown(0, 10, 1), 493);
        due.is("RIGHT for sure", g.shown(10, 0, 0), 1000);
        due.is("9 of 16", g.shown(10, 0, 1), 562);
    }

    private static void moreThanFourChangeNothing() {
        MayGreen good = Village.of("left a 0;right p 0;think a p 8 10 5;fit a p 16;cow 999;");
        MayGreen poor = Village.of("left a 0;right p 0;think a p 8 10 5;fit a p 0;cow 999;");
        after(good, 4);
        after(poor, 4);
        // By 16 to 1: 160 and 5 by 272. By 6^4 and 11^4, 1296 and 14641: 12960 and 73205 by 16 * 15937.
        due.is("4 GOOD: RIGHT", good.shown(0, 10, 0), 941);
        due.is("4 GOOD: GOOD", good.shown(0, 10, 1), 606);
        due.is("4 POOR: RIGHT", poor.shown(0, 10, 0), 81);
        due.is("4 POOR: GOOD", poor.shown(0, 10, 1), 337);
        good.may(1);
        poor.may(1);
        due.is("5 GOOD: RIGHT", good.shown(0, 10, 0), 941);
        due.is("5 GOOD: GOOD", good.shown(0, 10, 1), 606);
        due.is("5 POOR: RIGHT", poor.shown(0, 10, 0), 81);
        due.is("5 POOR: GOOD", poor.shown(0, 10, 1), 337);
        moreThanFourInYearsAhead(good, poor);
    }

    private static void moreThanFourInYearsAhead(MayGreen good, MayGreen poor) {
        // Behind one more GOOD year all is as it is; behind one POOR year by 16 * 6 and 11: 96 * 10 and 11 * 5 by
        // 16 * 107, 592.
        due.is("a 5th GOOD year ahead", good.best(0, 2, 0), 6060 + (606 * 6060 + 394 * 5920) / 1000);
        // Behind one more POOR year all is as it is; behind a GOOD one 1296 * 2 and 14641: 25920 and 73205 by
        // 16 * 17233, 359.
        due.is("a 5th POOR year ahead", poor.best(0, 2, 0), 3370 + (337 * 3590 + 663 * 3370) / 1000);
    }

    private static void sureOnes() {
        MayGreen g = Village.of("left a 0;right p 0;think a p 16 12 4;think p a 0 12 4;fit a p 0;cow 999;");
        due.is("C 16", g.shown(0, 10, 0), 1000);
        due.is("by G", g.shown(0, 10, 1), 750);
        due.is("C 0", g.shown(10, 0, 0), 0);
        due.is("by P", g.shown(10, 0, 1), 250);
        g.join(0, 10);
        g.may(5);
        due.is("C 16 whatever shows", g.shown(0, 10, 0) + g.shown(0, 10, 1), 1750);
        due.is("C 0 whatever shows", g.shown(10, 0, 0) + g.shown(10, 0, 1), 250);
        MayGreen cut = Village.of("left a 0;right p 0;think a p 1 1 0;think p a 15 16 15;");
        due.is("1 of 16, cut", cut.shown(0, 10, 0), 62);
        due.is("1 of 256, cut", cut.shown(0, 10, 1), 3);
        due.is("15 of 16, cut", cut.shown(10, 0, 0), 937);
        due.is("255 of 256, cut", cut.shown(10, 0, 1), 996);
    }

    // Promise 11.

    private static void liking() {
        MayGreen g = Village.of(FOUR);
        for (int nobody : NOBODY) {
            due.is("LIKING by " + nobody, g.liking(nobody, 10) + g.liking(nobody, 0), 2 * NONE);
            due.is("LIKING of " + nobody, g.liking(0, nobody) + g.liking(10, nobody), 2 * NONE);
        }
        due.is("LIKING of one's own SIDE", g.liking(0, 1) + g.liking(10, 11), 2 * NONE);
        due.is("LIKING of oneself", g.liking(0, 0) + g.liking(11, 11), 2 * NONE);
        MayGreen none = Village.of("left a 0;right p 0;worth 0 0;child 0 99;house 1 99;");
        due.is("LIKING 0", none.liking(0, 10), 0);
        MayGreen most = Village.of("left a 0;right p 0;fit a p 16;worth 99 0;house 1 99;child 16 99;cow 999;think a p 16 16 16;");
        most.may(50);
        most.may(50);
        due.is("by 99 CHILDREN of 99, no house", most.liking(0, 10), 99000 + 99 * 99000);
        due.is("WORTH for 4 Mays by the house", most.best(0, 4, 0), 4 * (99000 + 99 * 99000 + 99000));
        MayGreen both = Village.of("left a 0;right p 0;worth 3 99;think a p 16 16 16;think p a 16 0 0;");
        due.is("by W alone", both.liking(0, 10), 3000);
        due.is("by V alone", both.liking(10, 0), 99000);
        MayGreen parted = Village.of("left a 0;right p 0;child 16 2;think a p 16 0 0;");
        parted.join(0, 10);
        parted.may(1);
        parted.part(0);
        due.is("a CHILD counts though they are no pair", parted.liking(0, 10), 2000);
        wouldHave();
    }

    /** WOULD is more than ALONE: as much isn't enough. */
    private static void wouldHave() {
        String sure = "right p 0;worth 7 7;think p a 16 16 16;";
        due.is("7000 by ALONE 6", Village.of("left a 6;" + sure).green(0, 0), 10);
        due.is("7000 by ALONE 7", Village.of("left a 7;" + sure).green(0, 0), NONE);
        due.is("7000 by ALONE 8", Village.of("left a 8;" + sure).green(0, 0), NONE);
        due.is("0 by ALONE 0", Village.of("left a 0;right p 0;worth 0 0;").green(0, 0), NONE);
        due.is("99000 by ALONE 99", Village.of("left a 0;right p 99;worth 99 99;").green(0, 0), NONE);
        due.is("7001 by ALONE 7", Village.of("left a 7;right p 0;worth 8 7;think a p 1 1 0;").green(0, 0), 10);
    }

    // Promise 12.

    private static void sooner() {
        MayGreen g = Village.of(FOUR);
        for (int nobody : NOBODY) {
            due.is("sooner by " + nobody, g.sooner(nobody, 10, 11) + g.sooner(nobody, 0, 1), 2 * NONE);
            due.is("sooner " + nobody, g.sooner(0, nobody, 10) + g.sooner(10, nobody, 0), 2 * NONE);
            due.is("sooner than " + nobody, g.sooner(0, 10, nobody) + g.sooner(10, 0, nobody), 2 * NONE);
        }
        due.is("q of p's own SIDE", g.sooner(0, 1, 10) + g.sooner(10, 11, 0), 2 * NONE);
        due.is("r of p's own SIDE", g.sooner(0, 10, 1) + g.sooner(10, 0, 11), 2 * NONE);
        due.is("both of p's own SIDE", g.sooner(0, 0, 1) + g.sooner(10, 10, 11), 2 * NONE);
        due.is("the same one", g.sooner(0, 10, 10) + g.sooner(11, 1, 1), 0);
        MayGreen full = Village.of(EIGHT + "think a s 16 16 0;think s d 16 0 0;");
        for (int one = 0; one < 4; one++) {
            for (int other = 0; other < 4; other++) {
                due.is("a: s first, then the least number", full.sooner(0, 10 + one, 10 + other),
                    one == 3 && other < 3 || one < other && other < 3 ? 1 : 0);
                due.is("s: d last", full.sooner(13, one, other), one < other ? 1 : 0);
                due.is("r: all alike", full.sooner(12, one, other), one < other ? 1 : 0);
            }
        }
        soonerByLittle();
        soonerByWhatIsKnownAndChildren();
    }

    private static void soonerByLittle() {
        // 136 by 256 and 135 by 256.
        MayGreen g = Village.of("left a 0;right p 0;right q 0;worth 1 0;think a q 15 9 0;think a p 15 9 1;");
        due.is("p 531", g.liking(0, 10), 531);
        due.is("q 527", g.liking(0, 11), 527);
        due.is("p sooner", g.sooner(0, 10, 11), 1);
        due.is("q not sooner", g.sooner(0, 11, 10), 0);
        MayGreen back = Village.of("left a 0;right p 0;right q 0;worth 1 0;think a q 15 9 1;think a p 15 9 0;");
        due.is("q sooner, though its number is more", back.sooner(0, 11, 10), 1);
        due.is("p not sooner, though its number is less", back.sooner(0, 10, 11), 0);
    }

    private static void soonerByWhatIsKnownAndChildren() {
        MayGreen g = Village.of("left a 0;right p 0;right q 0;fit a q 16;fit a p 0;cow 999;");
        g.join(0, 11);
        g.may(1);
        due.is("a GOOD year", g.sooner(0, 11, 10), 1);
        g.part(0);
        due.is("a GOOD year behind the end", g.sooner(0, 11, 10), 1);
        g.join(0, 10);
        due.is("a house is not counted, nor whom one has", g.sooner(0, 11, 10), 1);
        MayGreen child = Village.of("left a 0;right p 0;right q 0;fit a q 0;child 16 2;cow 999;worth 1 0;");
        child.join(0, 11);
        child.may(1);
        child.part(0);
        due.is("a CHILD of 2 by a POOR year", child.sooner(0, 11, 10), 1);
        due.is("375 and 2000", child.liking(0, 11), 2375);
    }

    // Promise 13.

    private static void best() {
        MayGreen g = Village.of(FOUR);
        for (int nobody : NOBODY) {
            due.is("best of " + nobody, g.best(nobody, 1, 0), VOID);
            due.is("best ACT of " + nobody, g.best(nobody, 4, 1), VOID);
        }
        for (int n : NO_MAYS) {
            due.is("best for " + n, g.best(0, n, 0), VOID);
            due.is("best ACT for " + n, g.best(11, n, 1), VOID);
        }
        for (int other : new int[] {LEAST, -1, 2, 3, MOST}) {
            due.is("best, what " + other, g.best(0, 1, other), VOID);
            due.is("best, what " + other, g.best(11, 4, other), VOID);
        }
        bestForEachNumberOfMays();
        bestOfFourOthers();
        eachOfFourOthersIsReckonedAlike();
        nobodyBeyondThoseThereAre();
        likeActsInOrder();
        whoIsAlonePaysNoCow();
        houseOnlyByStaying();
    }

    private static void bestForEachNumberOfMays() {
        MayGreen sure = Village.of(SURE + "house 3 5;");
        due.is("1", sure.best(0, 1, 0), 10000);
        due.is("2", sure.best(0, 2, 0), 20000);
        due.is("3", sure.best(0, 3, 0), 30000);
        due.is("4, and the house", sure.best(0, 4, 0), 45000);
        for (int n = 1; n <= 4; n++) {
            due.is("q", sure.best(0, n, 1), 11);
            due.is("a for p", sure.best(10, n, 1), 0);
        }
        // By 3 to 1 either way: 625 behind a GOOD year, 375 behind a POOR one, then 750 behind two, 700 and 300 by 1000.
        MayGreen chance = Village.of("left a 0;right p 0;");
        due.is("1 by chance", chance.best(0, 1, 0), 5000);
        due.is("2 by chance", chance.best(0, 2, 0), 5000 + (500 * 6250 + 500 * 3750) / 1000);
        int good = 6250 + (625 * 7000 + 375 * 5000) / 1000;
        int poor = 3750 + (375 * 5000 + 625 * 3000) / 1000;
        due.is("3 by chance", chance.best(0, 3, 0), 5000 + (500 * good + 500 * poor) / 1000);
        MayGreen way = Village.of("left a 4;right p 0;");
        due.is("to be alone behind a POOR year", way.best(0, 2, 0), 5000 + (500 * 6250 + 500 * 4000) / 1000);
    }

    private static void bestOfFourOthers() {
        for (int k = 0; k < 4; k++) {
            MayGreen left = Village.of(EIGHT + "think d " + RIGHTS[k] + " 16 16 0;");
            MayGreen right = Village.of(EIGHT + "think s " + LEFTS[k] + " 16 16 0;");
            due.is("d goes to " + RIGHTS[k], left.best(3, 2, 1), 10 + k);
            due.is("20000 for d", left.best(3, 2, 0), 20000);
            due.is("s goes to " + LEFTS[k], right.best(13, 2, 1), k);
            due.is("20000 for s", right.best(13, 2, 0), 20000);
            due.is("d is alone first, then goes to " + RIGHTS[k], left.act(3, 2, NONE), 14000);
        }
        MayGreen nobody = Village.of("left a 0;right p 0;right q 0;worth 5 5;think a q 16 16 0;");
        due.is("of RIGHT ones that there are alone", nobody.best(0, 1, 1), 10);
        due.is("no third to go to", nobody.act(0, 1, 12), VOID);
    }

    /** Three others bring nothing for sure; the one who may bring something is each of the four in turn. */
    private static void eachOfFourOthersIsReckonedAlike() {
        String people = "left a 0;left b 0;left c 0;left d 0;right p 0;right q 0;right r 0;right s 0;";
        int good = 6250 + (625 * 7000 + 375 * 5000) / 1000;
        int poor = 3750 + (375 * 5000 + 625 * 3000) / 1000;
        for (int k = 0; k < 4; k++) {
            for (int me = 0; me < 8; me++) {
                String mine = me < 4 ? LEFTS[me] : RIGHTS[me - 4];
                StringBuilder text = new StringBuilder(people + "child 16 2;cow 9;fit ");
                String other = me < 4 ? RIGHTS[k] : LEFTS[k];
                text.append(me < 4 ? mine + " " + other : other + " " + mine).append(" 16;");
                for (int i = 0; i < 4; i++) {
                    text.append(i == k ? "" : "think " + mine + " " + (me < 4 ? RIGHTS[i] : LEFTS[i]) + " 16 0 0;");
                }
                MayGreen g = Village.of(text.toString());
                int p = me < 4 ? me : 6 + me;
                int q = me < 4 ? 10 + k : k;
                due.is("3 Mays with " + other + " by " + mine, g.best(p, 3, 0), 5000 + (500 * good + 500 * poor) / 1000);
                g.join(Math.min(p, q), Math.max(p, q));
                g.may(1);
                due.is("a GOOD year and a CHILD", g.act(p, 1, q), 8250);
                due.is("2 Mays then", g.best(p, 2, 0), 8250 + (625 * 9000 + 375 * 7000) / 1000);
                due.is("by the ACT", g.act(p, 2, q), 8250 + (625 * 9000 + 375 * 7000) / 1000);
                due.is("alone, then so", g.act(p, 2, NONE), 8250 - 9000);
            }
        }
    }

    private static void nobodyBeyondThoseThereAre() {
        MayGreen lefts = Village.of("left a 1;left b 2;left c 3;left d 4;right p 0;think a p 16 0 0;think d p 16 0 0;");
        due.is("d: none but p", lefts.best(3, 2, 0), 8000);
        due.is("d is alone", lefts.best(3, 2, 1), NONE);
        due.is("a: none but p", lefts.best(0, 2, 0), 2000);
        MayGreen rights = Village.of("left a 0;right p 1;right q 2;right r 3;right s 4;think p a 16 0 0;think s a 16 0 0;");
        due.is("s: none but a", rights.best(13, 2, 0), 8000);
        due.is("s is alone", rights.best(13, 2, 1), NONE);
        due.is("p: none but a", rights.best(10, 2, 0), 2000);
    }

    private static void likeActsInOrder() {
        MayGreen all = Village.of("left a 5;right p 0;right q 0;right r 0;worth 5 5;");
        due.is("alone, for one who is alone", all.best(0, 1, 1), NONE);
        due.is("for 4 Mays, too", all.best(0, 4, 1), NONE);
        all.join(0, 12);
        due.is("to stay", all.best(0, 1, 1), 12);
        due.is("for 4 Mays, too", all.best(0, 4, 1), 12);
        MayGreen gone = Village.of("left a 5;right p 0;right q 0;right r 0;worth 5 0;think a r 16 0 0;think a p 16 16 0;think a q 16 16 0;");
        gone.join(0, 12);
        due.is("then to be alone", gone.best(0, 1, 1), NONE);
        MayGreen least = Village.of("left a 4;right p 0;right q 0;right r 0;worth 5 0;think a r 16 0 0;think a p 16 16 0;think a q 16 16 0;");
        least.join(0, 12);
        due.is("then the least number", least.best(0, 1, 1), 10);
        least.part(0);
        due.is("the least number for one who is alone", least.best(0, 1, 1), 10);
    }

    private static void whoIsAlonePaysNoCow() {
        MayGreen g = Village.of(SURE + "cow 9;");
        due.is("alone: no COW", g.best(0, 1, 0), 10000);
        g.join(0, 10);
        due.is("to q for the COW", g.best(0, 1, 0), 1000);
        due.is("for 4 Mays the COW once", g.best(0, 4, 0), 31000);
        MayGreen dear = Village.of(SURE + "cow 10;");
        dear.join(0, 10);
        due.is("as much as to stay", dear.best(0, 1, 0), 0);
        due.is("stays", dear.best(0, 1, 1), 10);
        due.is("goes for 2 Mays", dear.best(0, 2, 1), 11);
        due.is("10000 for 2", dear.best(0, 2, 0), 10000);
        MayGreen far = Village.of(SURE + "cow 999;");
        far.join(0, 10);
        due.is("stays for 4", far.best(0, 4, 1), 10);
        due.is("nothing below 0", far.best(0, 4, 0), 0);
    }

    private static void houseOnlyByStaying() {
        MayGreen g = Village.of("left a 0;right p 0;right q 0;fit a p 16;think a p 16 16 16;think a q 16 16 16;house 1 7;cow 0;ahead 1;");
        g.join(0, 10);
        due.is("no year ahead of it: no house", g.act(0, 1, 10), 10000);
        g.may(1);
        due.is("a house by staying", g.act(0, 1, 10), 17000);
        due.is("none with another one", g.act(0, 1, 11), 10000);
        due.is("nor the next year with the first again: 10 and 17", g.act(0, 2, 11), 27000);
        due.is("alone, then no house with p", g.act(0, 2, NONE), 10000);
        g.part(0);
        due.is("none for one who was with p", g.act(0, 1, 10), 10000);
        due.is("a house behind one year", g.act(0, 2, 10), 27000);
        MayGreen nine = Village.of("left a 0;right p 0;fit a p 16;think a p 16 16 16;house 9 7;ahead 1;");
        nine.may(8);
        due.is("8 years: no house", nine.act(0, 1, 10), 10000);
        due.is("the house in the second May", nine.act(0, 2, 10), 27000);
        nine.may(1);
        due.is("9 years: the house", nine.act(0, 1, 10), 17000);
    }

    // Promise 14.

    private static void act() {
        MayGreen g = Village.of(FOUR);
        for (int nobody : NOBODY) {
            due.is("act of " + nobody, g.act(nobody, 1, 10), VOID);
            due.is("act of " + nobody, g.act(nobody, 1, NONE), VOID);
            if (nobody != NONE) {
                due.is("act to " + nobody, g.act(0, 1, nobody), VOID);
                due.is("act of 10 to " + nobody, g.act(10, 4, nobody), VOID);
            }
        }
        for (int n : NO_MAYS) {
            due.is("act for " + n, g.act(0, n, 10), VOID);
            due.is("alone for " + n, g.act(11, n, NONE), VOID);
        }
        due.is("to one's own SIDE", g.act(0, 1, 1), VOID);
        due.is("to oneself", g.act(11, 1, 11), VOID);
        MayGreen full = Village.of(EIGHT + "worth 9 9;cow 2;");
        full.join(3, 13);
        due.is("d stays", full.act(3, 1, 13), 9000);
        due.is("d goes to r", full.act(3, 1, 12), 7000);
        due.is("d is alone", full.act(3, 1, NONE), 2000);
        due.is("s stays", full.act(13, 1, 3), 9000);
        due.is("s goes to a", full.act(13, 1, 0), 7000);
        due.is("s is alone", full.act(13, 1, NONE), 6000);
        due.is("a goes to s, who isn't alone, and says yes", full.act(0, 1, 13), 9000);
        due.is("d is alone for 4, then 9 three times", full.act(3, 4, NONE), 4000 - 2000 + 27000);
    }

    // Promise 15.

    private static void silent() {
        MayGreen g = Village.of(FOUR);
        for (int nobody : NOBODY) {
            due.is("silent " + nobody, g.silent(nobody, 1), NONE);
        }
        for (int n : NO_MAYS) {
            due.is("silent for " + n, g.silent(0, n), NONE);
            due.is("silent for " + n, g.silent(10, n), NONE);
        }
        for (int cow = 9; cow <= 11; cow++) {
            MayGreen sure = Village.of(SURE + "cow " + cow + ";");
            due.is("not PAIRED", sure.silent(0, 1), 0);
            sure.join(0, 10);
            due.is("10 by COW " + cow, sure.silent(0, 1), cow < 10 ? 1 : 0);
            due.is("20 by COW " + cow, sure.silent(0, 2), 1);
            due.is("p would stay", sure.silent(10, 4), 0);
            due.is("q isn't PAIRED", sure.silent(11, 4), 0);
        }
        MayGreen far = Village.of(SURE + "cow 39;");
        far.join(0, 10);
        due.is("30 by 39", far.silent(0, 3), 0);
        due.is("40 by 39", far.silent(0, 4), 1);
        MayGreen dear = Village.of(SURE + "cow 40;");
        dear.join(0, 10);
        due.is("40 by 40", dear.silent(0, 4), 0);
        MayGreen happy = Village.of(SURE + "cow 0;");
        happy.join(0, 11);
        due.is("with the best", happy.silent(0, 4), 0);
    }

    // Promise 16.

    private static void bar() {
        MayGreen g = Village.of(FOUR);
        for (int nobody : NOBODY) {
            due.is("bar of " + nobody, g.bar(nobody, 10, 1, 1) + g.bar(nobody, 0, 1, 1), 2 * NONE);
            due.is("bar for " + nobody, g.bar(0, nobody, 1, 1) + g.bar(10, nobody, 1, 1), 2 * NONE);
        }
        due.is("bar for one's own SIDE", g.bar(0, 1, 1, 1) + g.bar(10, 11, 1, 1), 2 * NONE);
        due.is("bar for oneself", g.bar(0, 0, 1, 1), NONE);
        MayGreen happy = Village.of("left a 0;right p 0;");
        for (int m : new int[] {LEAST, -1, 0, 7, 8, MOST}) {
            due.is("bar of " + m + " years", happy.bar(0, 10, m, 1), NONE);
        }
        for (int n : NO_MAYS) {
            due.is("bar for " + n + " Mays", happy.bar(0, 10, 1, n), NONE);
        }
        for (int m = 1; m <= 6; m++) {
            due.is("none must have been GOOD", happy.bar(0, 10, m, 1), 0);
            due.is("for 4 Mays", happy.bar(10, 0, m, 4), 0);
        }
        allOfThemMustHaveBeenGood();
        noneDoes();
        barBehindTheHouse();
        barLeavesAllAsItIs();
    }

    private static void allOfThemMustHaveBeenGood() {
        // p behind 4 GOOD 743, behind 4 GOOD and a POOR one 732, behind 3 GOOD 732, behind 2 700; q 738.
        MayGreen g = Village.of("left a 0;right p 0;right q 0;think a q 15 12 9;");
        due.is("q 738", g.shown(0, 11, 1), 738);
        for (int m = 1; m <= 6; m++) {
            due.is("of " + m, g.bar(0, 10, m, 1), m < 4 ? NONE : m);
        }
        // q 732, as much as p behind 3 GOOD: (27 * 12 + 4) by 16 * 28.
        MayGreen like = Village.of("left a 0;right p 0;right q 0;worth 1 0;think a q 8 12 11;");
        due.is("q 718", like.shown(0, 11, 1), 718);
        due.is("of 2", like.bar(0, 10, 2, 1), NONE);
        due.is("of 3", like.bar(0, 10, 3, 1), 3);
        due.is("of 4: 3 and a POOR one are 2", like.bar(0, 10, 4, 1), 4);
        due.is("of 5: 4 and a POOR one are 3", like.bar(0, 10, 5, 1), 4);
        due.is("of 6: 5, counted as 4, and a POOR one", like.bar(0, 10, 6, 1), 5);
    }

    private static void noneDoes() {
        MayGreen g = Village.of("left a 0;right p 0;right q 0;think a q 16 12 0;");
        for (int m = 1; m <= 6; m++) {
            due.is("750 by none of " + m, g.bar(0, 10, m, 1), NONE);
        }
        MayGreen alone = Village.of("left a 8;right p 0;");
        due.is("rather alone", alone.bar(0, 10, 6, 4), NONE);
        MayGreen like = Village.of("left a 7;right p 0;");
        due.is("700 by two GOOD is as much as ALONE", like.bar(0, 10, 2, 1), 2);
    }

    private static void barBehindTheHouse() {
        // p without any GOOD year: 375, 300, 267 .. by 1, 2, 3 POOR ones; 2000 by the house from the third year on.
        MayGreen g = Village.of("left a 0;right p 0;right q 0;think a q 16 8 0;house 3 3;");
        due.is("no house behind 2", g.bar(0, 10, 2, 1), 1);
        due.is("the house behind 3", g.bar(0, 10, 3, 1), 0);
        due.is("behind 6", g.bar(0, 10, 6, 1), 0);
        MayGreen nine = Village.of("left a 0;right p 0;right q 0;think a q 16 8 0;house 7 99;");
        due.is("no house behind 6", nine.bar(0, 10, 6, 1), 3);
        due.is("but in the second May ahead", nine.bar(0, 10, 6, 2), 0);
    }

    private static void barLeavesAllAsItIs() {
        MayGreen g = allSixteen();
        String seen = Seen.of(g);
        g.bar(0, 10, 6, 4);
        g.bar(13, 2, 1, 4);
        g.price(0, 2);
        g.waits(0, 10, 4);
        g.act(0, 4, NONE);
        due.is("asking changes nothing", Seen.of(g).equals(seen), true);
        // What is KNOWN of p, whom a has, doesn't count, what is KNOWN of q does.
        MayGreen known = Village.of("left a 0;right p 0;right q 0;fit a p 16;fit a q 0;cow 999;ahead 1;");
        known.join(0, 11);
        known.may(1);
        known.part(0);
        known.join(0, 10);
        known.may(4);
        due.is("KNOWN of both", known.two(0, 10, 0) * 10 + known.two(0, 11, 1), 41);
        MayGreen cheap = Village.of("left a 0;right p 0;right q 0;fit a p 16;fit a q 0;cow 0;ahead 1;");
        cheap.join(0, 11);
        cheap.may(1);
        due.is("q 375 by a POOR year, p 375 by one of hers", cheap.bar(0, 10, 1, 1), 0);
        due.is("p 500, of whom nothing is KNOWN, by a POOR year of q", cheap.bar(0, 11, 1, 1), 1);
        MayGreen child = Village.of("left a 0;right p 0;right q 0;think a q 16 14 0;child 16 1;cow 4;ahead 1;");
        due.is("3750 behind a POOR year by 8750 less the COW", child.bar(0, 10, 1, 1), 1);
        child.join(0, 10);
        child.may(1);
        due.is("a CHILD", child.two(0, 10, 2), 1);
        due.is("the CHILD that there is now counts: 4750 by 4750", child.bar(0, 10, 1, 1), 0);
    }

    // Promise 17.

    private static void price() {
        MayGreen g = Village.of(FOUR);
        g.join(0, 10);
        for (int nobody : NOBODY) {
            due.is("price of " + nobody, g.price(nobody, 1), NONE);
        }
        for (int n : NO_MAYS) {
            due.is("price for " + n, g.price(0, n), NONE);
            due.is("price of 10 for " + n, g.price(10, n), NONE);
        }
        due.is("not PAIRED", g.price(1, 1) + g.price(11, 1), 2 * NONE);
        due.is("0: never SILENT", g.price(0, 1), 0);
        due.is("rather alone, and not PAIRED", Village.of("left a 9;right p 9;").price(0, 1), NONE);
        priceByOneThousandth();
        greatestPrice();
        priceForEachNumberOfMays();
        priceOfTheCowThatThereIs();
    }

    private static void priceByOneThousandth() {
        // p brings 0, q as many thousandths as it is GOOD.
        for (String thought : new String[] {"16 16 0 1", "16 15 0 1", "1 1 0 1", "16 0 0 0"}) {
            String told = thought.substring(0, thought.lastIndexOf(' '));
            MayGreen g = Village.of("left a 0;right p 0;right q 0;worth 1 0;think a p 16 0 0;think a q " + told + ";");
            g.join(0, 10);
            due.is("the next whole COW of " + told, g.price(0, 1), thought.charAt(thought.length() - 1) - '0');
        }
        // 743 behind 4 GOOD years, 742 by 190 of 256.
        MayGreen least = joined("left a 0;right p 0;right q 0;worth 1 0;fit a p 16;think a q 10 13 10;cow 999;", 0, 10);
        least.may(4);
        least.part(0);
        due.is("p 743", least.liking(0, 10), 743);
        due.is("q 742", least.liking(0, 11), 742);
        least.join(0, 11);
        due.is("one thousandth more", least.price(0, 1), 1);
        MayGreen two = Village.of("left a 0;right p 0;right q 0;worth 2 1;think a p 16 0 0;think a q 1 1 0;house 1 0;");
        two.join(0, 10);
        due.is("1003 by 1000", two.price(0, 1), 1);
        MayGreen three = Village.of("left a 0;right p 0;right q 0;worth 9 0;think a p 16 0 0;think a q 15 15 0;");
        three.join(0, 10);
        due.is("7902", three.liking(0, 11), 7902);
        due.is("8 COWS", three.price(0, 1), 8);
    }

    private static MayGreen childrenElsewhere(int good) {
        MayGreen g = Village.of("left a 0;right p 0;right q 0;worth " + good + " 0;child 16 99;cow 999;ahead 1;"
            + "think a p 16 0 0;think a q 16 16 16;fit a q 16;");
        g.join(0, 11);
        g.may(10);
        g.part(0);
        g.join(0, 10);
        return g;
    }

    private static void greatestPrice() {
        due.is("998", childrenElsewhere(8).price(0, 1), 998);
        due.is("999 at most", childrenElsewhere(9).price(0, 1), 999);
        due.is("1000 is no COW", childrenElsewhere(10).price(0, 1), NONE);
        due.is("none for 2 Mays", childrenElsewhere(9).price(0, 2), NONE);
        due.is("SILENT by a COW of 999", childrenElsewhere(10).silent(0, 1), 1);
        due.is("not SILENT by a COW of 999", childrenElsewhere(9).silent(0, 1), 0);
    }

    private static void priceForEachNumberOfMays() {
        MayGreen g = Village.of(SURE);
        g.join(0, 10);
        for (int n = 1; n <= 4; n++) {
            due.is("10 a May for " + n, g.price(0, n), 10 * n);
            due.is("p would stay for " + n, g.price(10, n), 0);
        }
    }

    private static void priceOfTheCowThatThereIs() {
        for (int cow : new int[] {0, 5, 999}) {
            MayGreen g = Village.of(SURE + "cow " + cow + ";");
            g.join(0, 10);
            due.is("10, whatever the COW is", g.price(0, 1), 10);
            due.is("the COW is as it was", g.act(0, 1, NONE), -1000 * cow);
        }
    }

    // Promise 18.

    private static void waits() {
        MayGreen g = Village.of(FOUR);
        for (int nobody : NOBODY) {
            due.is("waits " + nobody, g.waits(nobody, 10, 2), VOID);
            due.is("waits " + nobody, g.waits(nobody, 0, 2), VOID);
            due.is("waits for " + nobody, g.waits(0, nobody, 2), VOID);
            due.is("waits of 10 for " + nobody, g.waits(10, nobody, 2), VOID);
        }
        for (int n : new int[] {LEAST, -1, 0, 1, 5, 6, MOST}) {
            due.is("waits with " + n, g.waits(0, 10, n), VOID);
        }
        due.is("waits for one's own SIDE", g.waits(0, 1, 2), VOID);
        due.is("waits for oneself", g.waits(10, 10, 2), VOID);
        g.join(0, 10);
        due.is("a pair", g.waits(0, 10, 2), VOID);
        due.is("a pair, RIGHT ahead", g.waits(10, 0, 4), VOID);
        due.is("no pair, though both are PAIRED or not", g.waits(0, 11, 2) != VOID && g.waits(11, 0, 2) != VOID, true);
        waitingForEachNumberOfMays();
        waitingIsShutOutOfAllMays();
        waitingBehindWhatIsKnown();
    }

    private static void waitingForEachNumberOfMays() {
        MayGreen g = Village.of(SURE + "cow 3;house 1 5;");
        for (int n = 2; n <= 4; n++) {
            // Else p, who brings nothing but the house from the second year on.
            due.is("alone, then q for " + (n - 1), g.waits(0, 11, n), 10000 * (n - 1) - 5000 * (n - 1));
        }
        g.join(0, 10);
        for (int n = 2; n <= 4; n++) {
            due.is("the COW first, by " + n, g.waits(0, 11, n), -3000 + 10000 * (n - 1) - 5000 * (n - 1));
        }
        MayGreen alone = Village.of("left a 7;right p 0;think a p 16 16 16;");
        due.is("ALONE and 10000", alone.waits(0, 10, 2), 3000);
        due.is("ALONE and 30000", alone.waits(0, 10, 4), 9000);
        MayGreen less = Village.of("left a 99;right p 0;worth 0 0;cow 999;ahead 1;");
        due.is("99000 less than two Mays alone", less.waits(0, 10, 2), -99000);
    }

    private static void waitingIsShutOutOfAllMays() {
        MayGreen g = Village.of(EIGHT + "think d p 16 16 16;think d s 16 16 16;");
        due.is("s is as good as p", g.waits(3, 10, 2), 4000 + 10000 - 20000);
        due.is("p is as good as s", g.waits(3, 13, 4), 4000 + 30000 - 40000);
        MayGreen one = Village.of(EIGHT + "think d s 16 16 16;think s d 16 16 16;worth 10 1;");
        // p for 5500, who brings 6625 behind a GOOD year; behind a POOR one q for 5500.
        due.is("none as good as s", one.waits(3, 13, 2), 14000 - 5500 - (500 * 6625 + 500 * 5500) / 1000);
        due.is("none as good as d", one.waits(13, 3, 2), 18000 - 16000);
    }

    private static void waitingBehindWhatIsKnown() {
        MayGreen g = Village.of("left a 0;right p 0;right q 0;fit a p 16;child 16 2;cow 9;ahead 1;think a q 16 0 0;");
        g.join(0, 10);
        g.may(1);
        g.part(0);
        due.is("a GOOD year and a CHILD", g.liking(0, 10), 8250);
        due.is("each LIKING of now", g.waits(0, 10, 4), 3 * 8250);
        g.join(0, 11);
        due.is("the COW", g.waits(0, 10, 4), 3 * 8250 - 9000);
    }

    private static void askingIsNeverRefused() {
        MayGreen g = Village.of(FOUR);
        for (int wild : new int[] {LEAST, -1, 4, 99, MOST}) {
            g.person(wild, wild);
            g.earned(wild);
            g.two(wild, wild, wild);
            g.think(wild, wild, wild);
            g.shown(wild, wild, wild);
            g.liking(wild, wild);
            g.sooner(wild, wild, wild);
            g.best(wild, wild, wild);
            g.act(wild, wild, wild);
            g.silent(wild, wild);
            g.bar(wild, wild, wild, wild);
            g.price(wild, wild);
            g.waits(wild, wild, wild);
        }
        due.is("REFUSED are calls that would change something", g.status(0) + g.status(1) + g.status(2), 0);
        due.is("and nothing has changed", Seen.of(g).equals(Seen.of(Village.of(FOUR))), true);
    }
}
