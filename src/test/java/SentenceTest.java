/** Sentences of the document that the other hand-worked tests leave unheld, by the promise that rests on them. */
final class SentenceTest {
    private static final int NONE = MayGreen.NONE;
    private static final int LEAST = Integer.MIN_VALUE;
    private static final int MOST = Integer.MAX_VALUE;
    private static final String FOUR = "left a 0;left b 0;right p 0;right q 0;";
    private static final String[] LEFTS = {"a", "b", "c", "d"};
    private static final String[] RIGHTS = {"p", "q", "r", "s"};
    private static final Due due = new Due("SentenceTest");

    public static void main(String[] args) {
        faultLeavesTheVillage();
        textThatIsReadShowsInNothing();
        askingChangesNothing();
        earnedOfManyYears();
        earnedFarBelowNothing();
        barOfWhomMuchIsKnown();
        priceOfSeveralCows();
        lotForAChildThatCannotCome();
        asksOnAndOn();
        logOfALateYear();
        lifeCountsChildrenWhoPair();
        lifeByLeftAsksWhateverTheWayIs();
        due.close();
    }

    // Promise 4: the FAULT is asked for, and the VILLAGE of a text comes by `village` alone.

    private static void faultLeavesTheVillage() {
        String text = "left x 7;left y 6;left z 5;right w 8;think x w 1 3 2;fit x w 3;worth 30 20;cow 7;ahead 1;";
        MayGreen g = Village.of("left a 1;right b 2;right c 3;");
        g.may(2);
        Village.write(g, text);
        due.is("no FAULT", g.fault(), NONE);
        due.is("bytes", g.count(5), text.length());
        due.is("LEFT and RIGHT ones", g.count(0) * 10 + g.count(1), 12);
        due.is("the YEAR and T", g.count(2) * 10 + g.count(4), 23);
        due.is("ALONE", g.person(0, 0) * 100 + g.person(10, 0) * 10 + g.person(11, 0), 123);
        due.is("the pair", g.person(0, 1), 10);
        due.is("F", g.two(0, 10, 3), 8);
        due.is("C, G, P", g.think(0, 10, 0) * 10000 + g.think(0, 10, 1) * 100 + g.think(0, 10, 2), 81204);
        due.is("LIKING", g.liking(0, 11), 5000);
        due.is("by the PARENTS", g.parents(NONE), 160 + 48);
        due.is("the COW", g.act(0, 1, NONE), 1000);
        due.is("the VILLAGE of it", g.village(), 4);
        due.is("as of a new object", Seen.of(g).equals(Seen.of(Village.of(text))), true);
    }

    /** A text of fewer people, of more and with other numbers: each call answers as without it, and goes on so. */
    private static void textThatIsReadShowsInNothing() {
        String due0 = answers(TermsEdgeTest.lived(""));
        for (String text : new String[] {"left", "right z 9;left", "left z 9;right y 9;worth 50 50;house 9 9;child 0 99;cow 99;ahead 4;"
            + "think z y 1 1 1;think y z 2 2 2;fit z y 16;", "left y 9;left z 9;left w 9;left v 9;right k 9;right l 9;right m 9;right n 9;cow 99;"
            + "think y k 1 1 1;think k y 1 1 1;think z l 1 1 1;think l z 1 1 1;fit y k 1;fit z l 1;fit z k 1;fit y l 1;"}) {
            MayGreen g = TermsEdgeTest.lived(text);
            g.fault();
            due.is("all answers behind the FAULT of " + text, answers(g).equals(due0), true);
        }
    }

    /** What all calls answer but those of the text, in some 350 calls. */
    private static String answers(MayGreen g) {
        StringBuilder told = new StringBuilder();
        asked(told, g);
        told.append(g.image(0)).append(g.part(0)).append(g.part(11)).append(g.join(0, 10)).append(g.join(1, 11));
        told.append(g.may(3)).append(g.image(2)).append(g.part(1)).append(g.may(2));
        asked(told, g);
        told.append(g.on(0)).append(g.may(1)).append(g.on(2)).append(g.may(1));
        lives(told, g);
        return told.toString();
    }

    private static void asked(StringBuilder told, MayGreen g) {
        lives(told, g);
        for (int p : new int[] {0, 1, 10, 11}) {
            for (int q = p < 10 ? 10 : 0; q % 10 < 2; q++) {
                told.append(g.two(p, q, 3)).append(' ').append(g.think(p, q, 0)).append(' ').append(g.think(p, q, 1))
                    .append(' ').append(g.shown(p, q, 0)).append(' ').append(g.shown(p, q, 1)).append(' ')
                    .append(g.liking(p, q)).append(' ').append(g.sooner(p, q, p < 10 ? 11 : 0)).append(' ')
                    .append(g.act(p, 2, q)).append(' ').append(g.bar(p, q, 2, 2)).append(' ').append(g.waits(p, q, 3)).append('\n');
            }
            told.append(g.best(p, 3, 0)).append(' ').append(g.best(p, 3, 1)).append(' ').append(g.act(p, 2, NONE)).append(' ')
                .append(g.silent(p, 2)).append(' ').append(g.price(p, 2)).append(' ').append(g.green(0, p)).append(' ')
                .append(g.green(1, p)).append(' ').append(g.green(2, p)).append(' ').append(g.parents(p)).append('\n');
        }
        for (int k = NONE; k <= 4; k++) {
            told.append(g.count(k)).append(' ').append(g.blocks(k)).append(' ').append(g.never(k)).append(' ')
                .append(g.pairs(1, k)).append(' ').append(g.life(20, k)).append(' ').append(g.log(0, k)).append('\n');
        }
        told.append(g.parents(NONE)).append(' ').append(g.person(2, 0)).append(' ').append(g.person(12, 0)).append('\n');
    }

    private static void lives(StringBuilder told, MayGreen g) {
        for (int p : new int[] {0, 1, 10, 11}) {
            told.append(g.person(p, 0)).append(' ').append(g.person(p, 1)).append(' ').append(g.person(p, 2)).append(' ')
                .append(g.earned(p)).append('\n');
        }
        told.append(g.two(0, 10, 2)).append(' ').append(g.two(1, 10, 2)).append(' ').append(g.two(1, 11, 2)).append('\n');
    }

    // What asks changes nothing and is never REFUSED, with numbers that can be and that can't.

    private static void askingChangesNothing() {
        Refusal lived = new Refusal(due, () -> TermsEdgeTest.lived("left x 7;right y 8;"));
        for (int k : new int[] {0, 1, 2, NONE, 10, LEAST, MOST}) {
            int n = k;
            lived.asked("person " + n, g -> g.person(n, 1));
            lived.asked("earned " + n, g -> g.earned(n));
            lived.asked("two " + n, g -> g.two(0, 10, n));
            lived.asked("think " + n, g -> g.think(1, 10, n));
            lived.asked("shown " + n, g -> g.shown(10, 1, n));
            lived.asked("liking " + n, g -> g.liking(n, 11));
            lived.asked("sooner " + n, g -> g.sooner(1, n, 11));
            lived.asked("best " + n, g -> g.best(1, 4, n));
            lived.asked("act " + n, g -> g.act(1, 3, n));
            lived.asked("silent " + n, g -> g.silent(10, n));
            lived.asked("bar " + n, g -> g.bar(0, 10, 6, n));
            lived.asked("price " + n, g -> g.price(n, 2));
            lived.asked("waits " + n, g -> g.waits(0, 10, n));
            lived.asked("waits for " + n, g -> g.waits(0, n, 3));
            lived.asked("green " + n, g -> g.green(n, 0));
            lived.asked("log " + n, g -> g.log(n, 0));
            lived.asked("blocks " + n, g -> g.blocks(n));
            lived.asked("parents " + n, g -> g.parents(n));
            lived.asked("life " + n, g -> g.life(n, 1));
            lived.asked("never " + n, g -> g.never(n));
            lived.asked("pairs " + n, g -> g.pairs(n, 1));
            lived.asked("status " + n, g -> g.status(n));
            lived.asked("count " + n, g -> g.count(n));
        }
        lived.asked("fault", MayGreen::fault);
        askingOneThingChangesNoOtherAnswer();
    }

    /** What one call reckons with shows in no other call's answer: each pair of calls, one behind the other. */
    private static void askingOneThingChangesNoOtherAnswer() {
        MayGreen g = TermsEdgeTest.lived("");
        long[] alone = new long[13];
        for (int call = 0; call < alone.length; call++) {
            alone[call] = reckoned(TermsEdgeTest.lived(""), call);
        }
        for (int one = 0; one < alone.length; one++) {
            for (int other = 0; other < alone.length; other++) {
                reckoned(g, one);
                due.is("call " + other + " behind call " + one, reckoned(g, other), alone[other]);
            }
        }
    }

    private static long reckoned(MayGreen g, int call) {
        return switch (call) {
            case 0 -> g.best(0, 3, 0);
            case 1 -> g.act(0, 3, NONE);
            case 2 -> g.silent(1, 2);
            case 3 -> g.bar(0, 11, 3, 3);
            case 4 -> g.price(g.person(1, 1) == NONE ? 0 : 1, 3);
            case 5 -> g.waits(0, g.person(0, 1) == 10 ? 11 : 10, 3);
            case 6 -> g.green(0, 0);
            case 7 -> g.green(2, 11);
            case 8 -> g.life(20, 0);
            case 9 -> g.life(20, 1);
            case 10 -> g.blocks(NONE);
            case 11 -> g.sooner(0, 10, 11);
            default -> g.best(0, 3, 1);
        };
    }

    // Promises 7 and 22: what all EARN, by as many years as an object is used for.

    private static void earnedOfManyYears() {
        MayGreen g = Village.of("left a 0;right p 0;right z 99;worth 99 99;house 9 99;child 16 99;cow 999;ahead 1;");
        int sum = 0;
        for (int mays = 1; mays <= 480; mays++) {
            for (int year = 50 * (mays - 1); year < 50 * mays; year++) {
                sum += 99 + (year >= 9 ? 99 : 0) + 99 * Math.min(99, year);
            }
            due.is("the YEAR", g.may(50), 50 * mays);
            if (mays % 80 == 0) {
                due.is("EARNED by a", g.earned(0), sum);
                due.is("EARNED by z, alone", g.earned(11), 99 * 50 * mays);
            }
        }
        due.is("EARNED by p", g.earned(10), sum);
        due.is("more than 200 millions", sum > 200000000, true);
        due.is("24000 years on end", g.person(0, 2), 24000);
        due.is("asked each May but the first", g.two(0, 10, 4), 23999);
        due.is("100 YESES or more", g.pairs(100, 1), 1);
    }

    /** q has 11 CHILDREN with a, and 2 with b, whom q stays with: a is joined to p and SILENT, May after May. */
    private static MayGreen joinedInVain() {
        MayGreen g = Village.of("left a 0;left b 0;right p 99;right q 0;child 16 99;worth 0 0;cow 999;ahead 1;");
        g.join(1, 11);
        g.may(2);
        g.part(1);
        g.join(0, 11);
        g.may(11);
        g.part(0);
        g.join(1, 11);
        return g;
    }

    private static void earnedFarBelowNothing() {
        MayGreen g = joinedInVain();
        int earned = 99 * (11 * 10 / 2);
        due.is("by CHILDREN alone", g.earned(0), earned);
        for (int mays = 0; mays < 50; mays++) {
            g.join(0, 10);
            g.may(1);
            earned -= 999;
            due.is("a COW more", g.earned(0), earned);
        }
        due.is("p pays none, and is alone for 99", g.earned(10), 99 * (13 + 50));
        due.is("the latest 40", g.log(NONE, 0), 40);
        due.is("a was SILENT", g.log(39, 4), 1);
        due.is("b and q stay", g.two(1, 11, 4), 50);
    }

    // Promise 16: nothing else being KNOWN of q than what the BAR tells.

    private static void barOfWhomMuchIsKnown() {
        // q brings 5000; p as much behind as many GOOD as POOR years.
        for (int fit : new int[] {0, 16}) {
            MayGreen g = Village.of("left a 0;right p 0;right q 0;think a q 16 8 0;fit a p " + fit + ";cow 0;ahead 1;");
            for (int years = 0; years <= 4; years++) {
                due.is("2 years, whatever is KNOWN", g.bar(0, 10, 2, 1), 1);
                due.is("3 years, whatever is KNOWN", g.bar(0, 10, 3, 1), 2);
                due.is("4 years, whatever is KNOWN", g.bar(0, 10, 4, 1), 2);
                g.part(0);
                g.join(0, 10);
                if (fit == 16 || years == 0) {
                    g.may(1);
                }
            }
            due.is("KNOWN", g.two(0, 10, 0) * 10 + g.two(0, 10, 1), fit == 16 ? 40 : 1);
        }
    }

    // Promise 17: the least COW, where who goes may pay more than one.

    private static void priceOfSeveralCows() {
        // p brings 5000 for sure; q 5000, then 10000 or nothing. To stay is worth 10000; to go 5000 and 5000, and
        // behind a POOR year half of what there is to go back: 12500 less a COW and a half, of 2: 10000 - 500.
        MayGreen g = Village.of("left a 0;right p 0;right q 0;think a p 16 8 8;think a q 8 16 0;cow 1;");
        g.join(0, 10);
        due.is("1 May", g.price(0, 1), 0);
        due.is("12500 by COW 1, less 1500", g.act(0, 2, 11), 11000);
        due.is("to stay", g.act(0, 2, 10), 10000);
        due.is("SILENT by a COW of 1", g.silent(0, 2), 1);
        due.is("not by one of 2", g.price(0, 2), 2);
        MayGreen two = Village.of("left a 0;right p 0;right q 0;think a p 16 8 8;think a q 8 16 0;cow 2;");
        two.join(0, 10);
        due.is("12500 by COW 2, less 3000", two.act(0, 2, 11), 9500);
        due.is("not SILENT", two.silent(0, 2), 0);
    }

    // Promise 22: both lots are taken each year, for a CHILD beyond the 99th, too.

    private static void lotForAChildThatCannotCome() {
        MayGreen g = Village.of("left a 0;right p 0;fit a p 7;worth 10 3;child 16 0;cow 999;ahead 1;");
        g.join(0, 10);
        g.may(50);
        g.may(49);
        due.is("99 CHILDREN", g.two(0, 10, 2), 99);
        g.seed(5);
        long x = 5;
        for (int year = 0; year < 30; year++) {
            x = (x * 1103515245L + 12345L) % 2147483648L;
            int worth = x / 256 % 16 < 7 ? 10 : 3;
            x = (x * 1103515245L + 12345L) % 2147483648L;
            int earned = g.earned(0);
            g.may(1);
            due.is("the year " + year, g.earned(0) - earned, worth);
        }
        due.is("99 CHILDREN still", g.two(0, 10, 2), 99);
    }

    // Promises 19 and 21: asking goes on and on.

    /** Whom each of these likes most, next and so on of the others, as thoughts: 9, then as without, 7 and 6. */
    private static void think(StringBuilder text, String[] ones, String[] likes) {
        String[] sure = {"9 9", "", "7 7", "6 6"};
        for (int k = 0; k < 4; k++) {
            for (int place = 0; place < 4; place++) {
                if (place != 1) {
                    text.append("think ").append(ones[k]).append(' ').append(likes[k].charAt(place)).append(" 0 ")
                        .append(sure[place]).append(';');
                }
            }
        }
    }

    private static void asksOnAndOn() {
        // As many asks as four and four can make, 13: a s, b p, c r; d s no, d p no, d r puts c off; c s no, c p puts
        // b off; b r no, b s puts a off; a r no, a p no, a q.
        String people = "left a 0;left b 0;left c 0;left d 0;right p 0;right q 0;right r 0;right s 0;";
        StringBuilder left = new StringBuilder(people);
        think(left, LEFTS, new String[] {"srpq", "prsq", "rspq", "sprq"});
        think(left, RIGHTS, new String[] {"cbda", "adbc", "dacb", "bacd"});
        StringBuilder right = new StringBuilder(people);
        think(right, RIGHTS, new String[] {"dcab", "acdb", "cdab", "dacb"});
        think(right, LEFTS, new String[] {"rqsp", "psqr", "sprq", "qprs"});
        int[] with = {1, 3, 0, 2};
        MayGreen byLeft = Village.of(left.toString());
        MayGreen byRight = Village.of(right.toString());
        byRight.way(1);
        for (int k = 0; k < 4; k++) {
            due.is("LEFT ASKS: " + LEFTS[k], byLeft.green(0, k), 10 + with[k]);
            due.is("RIGHT ASKS: " + RIGHTS[k], byRight.green(1, 10 + k), with[k]);
        }
        byLeft.may(1);
        byRight.may(1);
        for (int k = 0; k < 4; k++) {
            due.is("on a May, LEFT ASKS: " + LEFTS[k], byLeft.person(k, 1), 10 + with[k]);
            due.is("on a May, RIGHT ASKS: " + RIGHTS[k], byRight.person(10 + k, 1), with[k]);
        }
    }

    // Promise 25: a row tells its YEAR, however late.

    private static void logOfALateYear() {
        MayGreen g = joinedInVain();
        for (int mays = 0; mays < 400; mays++) {
            g.may(50);
        }
        g.join(0, 10);
        g.may(1);
        due.is("the YEAR", g.log(0, 0), 13 + 20000);
        due.is("LEFT and RIGHT", g.log(0, 1) * 100 + g.log(0, 2), 10);
        due.is("no years", g.log(0, 3), 0);
    }

    // Promise 28: WAY 0 goes by LIKING with nothing KNOWN, so CHILDREN count for who pairs; the sum is without them.

    private static void lifeCountsChildrenWhoPair() {
        MayGreen g = Village.of("left a 0;right p 0;right q 0;fit a q 16;child 16 1;cow 999;ahead 1;");
        due.is("of like ones p", g.life(1, 0), 160);
        g.join(0, 11);
        g.may(1);
        due.is("a CHILD with q: 6000 by 5000", g.life(1, 0), 320);
        due.is("as by the PARENTS", g.life(1, 1), 0);
        g.part(0);
        due.is("whoever is PAIRED", g.life(1, 0), 320);
        MayGreen would = Village.of("left a 6;right p 6;child 16 1;cow 999;ahead 1;");
        would.join(0, 10);
        would.may(1);
        due.is("alone: 6000 isn't more than ALONE", would.life(1, 0), 192);
        would.may(1);
        due.is("wed by two CHILDREN, for TRUE worth", would.life(1, 0), 160);
    }

    private static void lifeByLeftAsksWhateverTheWayIs() {
        // Each LEFT one likes most who likes another one most: by WAY 0 a has p, by WAY 1 q. IN TURN b has what is left.
        MayGreen g = Village.of(FOUR + "think a p 16 12 0;think b q 16 12 0;think p b 16 12 0;think q a 16 12 0;"
            + "fit a p 16;fit b q 16;fit a q 0;fit b p 0;");
        MayGreen rush = Village.of(FOUR + "think a p 16 12 0;think b p 16 12 0;think p b 16 12 0;"
            + "fit a p 16;fit b q 16;fit a q 0;fit b p 0;");
        for (int way = 0; way <= 3; way++) {
            g.way(way);
            rush.way(way);
            due.is("a with p, b with q", g.life(1, 0), 640);
            due.is("b with p, a with q", rush.life(1, 0), 0);
            due.is("the WAY stays", g.count(3), way);
        }
    }
}
