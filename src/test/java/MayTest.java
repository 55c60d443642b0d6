/** Promises 19 to 33: the WAYS, the Mays, pairs by hand, the LOG, the sums, images and what was REFUSED. */
final class MayTest {
    private static final int NONE = MayGreen.NONE;
    private static final int VOID = MayGreen.VOID;
    private static final int[] NOBODY = {-2147483648, -2, 4, 9, 14, 2147483647};
    private static final String FOUR = "left a 0;left b 0;right p 0;right q 0;";
    /** Each LEFT one likes most who likes another one most. */
    private static final String CROSS = FOUR
        + "think a p 16 12 0;think b q 16 12 0;think p b 16 12 0;think q a 16 12 0;";
    /** Both LEFT ones like p most, who likes b most. */
    private static final String RUSH = FOUR + "think a p 16 12 0;think b p 16 12 0;think p b 16 12 0;";
    /** a is SILENT behind one year with b, if the COW is below 5. */
    private static final String FICKLE = "left a 0;right b 0;right c 0;think a b 8 16 0;fit a b 0;";
    private static final Due due = new Due("MayTest");

    public static void main(String[] args) {
        way();
        seed();
        green();
        greenOfThree();
        may();
        lots();
        byLot();
        silence();
        silenceOfBoth();
        join();
        part();
        log();
        logOfForty();
        blocks();
        parents();
        life();
        never();
        pairs();
        image();
        on();
        status();
        due.close();
    }

    private static void way() {
        MayGreen g = Village.of(CROSS);
        for (int way = 0; way <= 3; way++) {
            due.is("way", g.way(way), true);
            due.is("the WAY", g.count(3), way);
        }
        due.is("way 4", g.way(4), false);
        due.is("way -1", g.way(-1), false);
        due.is("refused", g.status(0), 2);
        due.is("the WAY still", g.count(3), 3);
        g.way(1);
        g.may(1);
        due.is("by RIGHT ASKS", g.person(0, 1), 11);
        MayGreen turn = Village.of(RUSH);
        turn.way(2);
        turn.may(1);
        due.is("IN TURN", turn.person(0, 1), 10);
    }

    private static void seed() {
        MayGreen g = Village.of("left a 0;right b 0;fit a b 15;");
        due.is("seed 0", g.seed(0), true);
        due.is("seed 1000000", g.seed(1000000), true);
        due.is("seed 1000001", g.seed(1000001), false);
        due.is("seed -1", g.seed(-1), false);
        due.is("refused", g.status(2), 2);
        due.is("refused for others", g.status(0), 0);
        // x is 1103527590 behind 1: a lot below 16 of 14.
        g.seed(1);
        g.may(1);
        due.is("14 below 15", g.two(0, 10, 0), 1);
        MayGreen poor = Village.of("left a 0;right b 0;fit a b 14;");
        poor.seed(1);
        poor.may(1);
        due.is("14 not below 14", poor.two(0, 10, 1), 1);
    }

    private static void green() {
        MayGreen g = Village.of(CROSS);
        due.is("LEFT ASKS: a", g.green(0, 0), 10);
        due.is("LEFT ASKS: q", g.green(0, 11), 1);
        due.is("RIGHT ASKS: a", g.green(1, 0), 11);
        due.is("RIGHT ASKS: p", g.green(1, 10), 1);
        due.is("IN TURN: b", g.green(2, 1), 11);
        due.is("BY LOT", g.green(3, 0), VOID);
        due.is("way -1", g.green(-1, 0), VOID);
        for (int nobody : NOBODY) {
            due.is("nobody", g.green(0, nobody), VOID);
        }
        due.is("NONE is nobody", g.green(0, NONE), VOID);
        MayGreen rush = Village.of(RUSH);
        due.is("p keeps b", rush.green(0, 10), 1);
        due.is("a has q", rush.green(0, 0), 11);
        due.is("by turns a has p", rush.green(2, 0), 10);
        due.is("by turns b has q", rush.green(2, 1), 11);
        rush.join(1, 10);
        due.is("all are on the green", rush.green(2, 0), 10);
        due.is("and stay as they are", rush.person(1, 1), 10);
        MayGreen would = Village.of("left a 5;left b 4;right p 4;right q 5;");
        due.is("5000 isn't more than 5000", would.green(0, 0), NONE);
        due.is("nor for q", would.green(0, 11), NONE);
        due.is("b and p would", would.green(1, 1), 10);
        due.is("b and p would by turns", would.green(2, 10), 1);
        MayGreen one = Village.of("left a 0;right p 9;right q 0;think a p 16 16 16;");
        due.is("p wouldn't: a has q", one.green(0, 0), 11);
        due.is("by turns too", one.green(2, 0), 11);
        MayGreen lots = Village.of("left a 0;right b 0;fit a b 1;");
        lots.green(0, 0);
        lots.green(2, 0);
        lots.may(1);
        due.is("no lot for asking: 0 is below 1", lots.two(0, 10, 0), 1);
    }

    private static void greenOfThree() {
        // a: p q r; b: p q r; c: p r q by LIKING; p: c b a; q: b a c; r: a b c.
        MayGreen g = Village.of("left a 0;left b 0;left c 0;right p 0;right q 0;right r 0;"
            + "think a p 16 15 0;think a q 16 14 0;think a r 16 13 0;think b p 16 15 0;think b q 16 14 0;"
            + "think b r 16 13 0;think c p 16 15 0;think c q 16 13 0;think c r 16 14 0;"
            + "think p a 16 13 0;think p b 16 14 0;think p c 16 15 0;think q a 16 14 0;think q b 16 15 0;"
            + "think q c 16 13 0;think r a 16 15 0;think r b 16 14 0;think r c 16 13 0;");
        due.is("c has p", g.green(0, 2), 10);
        due.is("b has q", g.green(0, 1), 11);
        due.is("a has r", g.green(0, 0), 12);
        due.is("by turns a has p", g.green(2, 0), 10);
        due.is("by turns b has q", g.green(2, 1), 11);
        due.is("by turns c has r", g.green(2, 2), 12);
    }

    private static void may() {
        MayGreen g = Village.of(LookTest.SURE);
        due.is("0 Mays", g.may(0), NONE);
        due.is("51 Mays", g.may(51), NONE);
        due.is("-1 Mays", g.may(-1), NONE);
        due.is("refused", g.status(2), 3);
        due.is("no YEAR", g.count(2), 0);
        due.is("1 May", g.may(1), 1);
        due.is("2 more", g.may(2), 3);
        due.is("the house, behind two years", g.earned(0), 44);
        due.is("50 more", g.may(50), 53);
        MayGreen none = new MayGreen();
        due.is("without a village", none.may(1), NONE);
        due.is("refused without", none.status(2), 1);
        MayGreen twins = Village.of(LookTest.SURE);
        for (int k = 0; k < 53; k++) {
            twins.may(1);
        }
        due.is("53 Mays one by one", twins.earned(11), g.earned(11));
    }

    private static void lots() {
        // Lots below 16 from x = 0 on: 0 6 7 12 6 12.
        MayGreen g = Village.of("left a 0;right b 0;fit a b 7;child 7 1;");
        g.may(1);
        due.is("0: GOOD", g.two(0, 10, 0), 1);
        due.is("6: a CHILD, behind the year", g.two(0, 10, 2), 1);
        due.is("W alone", g.earned(0), 10);
        g.may(1);
        due.is("7: POOR", g.two(0, 10, 1), 1);
        due.is("12: no CHILD", g.two(0, 10, 2), 1);
        due.is("V and a CHILD", g.earned(10), 11);
        g.may(1);
        due.is("6: GOOD", g.two(0, 10, 0), 2);
        due.is("12: none", g.two(0, 10, 2), 1);
        due.is("W and a CHILD", g.earned(0), 22);
        MayGreen two = Village.of(FOUR + "fit a p 1;fit b q 8;child 7 0;");
        two.may(1);
        due.is("a first: 0", two.two(0, 10, 0), 1);
        due.is("6: a CHILD", two.two(0, 10, 2), 1);
        due.is("b next: 7", two.two(1, 11, 0), 1);
        due.is("12: none for b", two.two(1, 11, 2), 0);
        MayGreen barren = Village.of(FOUR + "fit a p 1;fit b q 7;");
        barren.may(1);
        due.is("a lot for a CHILD without child, too: 7", barren.two(1, 11, 1), 1);
    }

    private static void byLot() {
        // x behind 1 by 256 is 4310654: below 3 it is 2.
        MayGreen g = Village.of("left a 0;right p 0;right q 0;right r 0;");
        g.way(3);
        g.seed(1);
        g.may(1);
        due.is("the third", g.person(0, 1), 12);
        MayGreen would = Village.of("left a 0;right o 99;right p 0;right q 0;right r 0;");
        would.way(3);
        would.seed(1);
        would.may(1);
        due.is("the third of those who WOULD", would.person(0, 1), 13);
        // From 0 on: below 1 a lot of 0, then 6 and 7.
        MayGreen one = Village.of("left a 0;right b 0;fit a b 7;child 7 1;");
        one.way(3);
        one.may(1);
        due.is("6: GOOD", one.two(0, 10, 0), 1);
        due.is("7: no CHILD", one.two(0, 10, 2), 0);
        MayGreen none = Village.of("left z 99;left a 0;right b 0;fit a b 7;child 7 1;");
        none.way(3);
        none.may(1);
        due.is("no lot for none", none.two(1, 10, 2), 0);
        due.is("6 again", none.two(1, 10, 0), 1);
        // 48 below 2 is 0, then 5495830 below 1.
        MayGreen left = Village.of(FOUR);
        left.way(3);
        left.may(1);
        due.is("a has p", left.person(0, 1), 10);
        due.is("b has the one left", left.person(1, 1), 11);
    }

    private static void silence() {
        MayGreen g = Village.of(FICKLE + "fit a c 16;cow 1;ahead 1;");
        g.may(1);
        due.is("a with b", g.person(0, 1), 10);
        due.is("YEAR 2", g.may(1), 2);
        due.is("a with c", g.person(0, 1), 11);
        due.is("a pays the COW", g.earned(0), 9);
        due.is("b pays none", g.earned(10), 0);
        due.is("YEAR of the row", g.log(0, 0), 1);
        due.is("years from 0 on", g.person(0, 2), 1);
        due.is("YESES from 0 on", g.two(0, 11, 4), 0);
        g.may(1);
        due.is("a YES", g.two(11, 0, 4), 1);
        // c is worth 5000 a May, b nothing any more: less than one COW of 6, and more than that in two Mays.
        MayGreen far = Village.of(FICKLE + "cow 6;ahead 1;");
        far.may(2);
        due.is("stays for 1 May", far.person(0, 1), 10);
        MayGreen near = Village.of(FICKLE + "cow 6;ahead 2;");
        near.may(2);
        due.is("goes for 2 Mays", near.person(0, 1), 11);
    }

    private static void silenceOfBoth() {
        // Behind a POOR year each of a pair would rather have one of whom nothing is KNOWN.
        MayGreen g = Village.of(FOUR + "fit a p 0;fit b q 0;fit a q 0;fit b p 0;ahead 1;cow 0;worth 10 0;");
        g.may(1);
        due.is("a with p", g.person(0, 1), 10);
        g.may(1);
        due.is("both SILENT", g.log(0, 4), 3);
        due.is("two rows", g.log(NONE, 0), 2);
        due.is("by LEFT numbers", g.log(1, 1), 1);
        due.is("a with q now", g.person(0, 1), 11);
        MayGreen right = Village.of("left a 0;left b 0;right p 0;think p a 8 16 0;fit a p 0;ahead 1;");
        right.may(2);
        due.is("p is SILENT", right.log(0, 4), 2);
        due.is("p with b", right.person(10, 1), 1);
        due.is("a is alone", right.person(0, 1), NONE);
        // p goes for b's sake, who wouldn't: a and p pair anew, both WOULD still.
        MayGreen again = Village.of("left a 0;left b 50;right p 0;fit a p 0;ahead 1;");
        again.may(2);
        due.is("a row", again.log(0, 4), 2);
        due.is("the same two again", again.person(0, 1), 10);
        due.is("for a year on end", again.person(0, 2), 1);
        due.is("YESES anew", again.two(0, 10, 4), 0);
    }

    private static void join() {
        MayGreen g = Village.of(FOUR);
        due.is("join", g.join(0, 11), true);
        due.is("a with q", g.person(0, 1), 11);
        due.is("a has one", g.join(0, 10), false);
        due.is("q has one", g.join(1, 11), false);
        due.is("both have each other", g.join(0, 11), false);
        due.is("refused", g.status(2), 3);
        due.is("RIGHT and LEFT", g.join(10, 1), false);
        due.is("LEFT and LEFT", g.join(0, 1), false);
        due.is("RIGHT and RIGHT", g.join(10, 11), false);
        due.is("refused, there are none such", g.status(0), 3);
        for (int nobody : NOBODY) {
            due.is("nobody", g.join(nobody, 10), false);
            due.is("with nobody", g.join(1, nobody), false);
        }
        due.is("refused then", g.status(0), 15);
        due.is("b and p are alone", g.pairs(0, 0), 1);
        MayGreen against = Village.of("left a 99;right p 99;");
        due.is("by hand, though neither WOULD", against.join(0, 10), true);
        due.is("no YESES yet", against.two(0, 10, 4), 0);
    }

    private static void part() {
        MayGreen g = Village.of(LookTest.SURE);
        g.may(2);
        due.is("part", g.part(10), true);
        due.is("a is alone", g.person(0, 1), NONE);
        due.is("p is alone", g.person(10, 1), NONE);
        due.is("no COW", g.earned(0), 23);
        due.is("no LOG", g.log(NONE, 0), 0);
        due.is("alone already", g.part(10), false);
        due.is("alone already, too", g.part(0), false);
        due.is("refused", g.status(2), 2);
        for (int nobody : NOBODY) {
            due.is("nobody", g.part(nobody), false);
        }
        due.is("refused, no such PERSON", g.status(0), 6);
        due.is("by LEFT", g.part(1), true);
        due.is("none left", g.pairs(0, 0), 0);
    }

    private static void log() {
        MayGreen g = Village.of(FICKLE + "cow 1;ahead 1;");
        due.is("none", g.log(NONE, 0), 0);
        g.may(2);
        due.is("one", g.log(NONE, 0), 1);
        due.is("one, by any what", g.log(NONE, 99), 1);
        due.is("YEAR", g.log(0, 0), 1);
        due.is("LEFT", g.log(0, 1), 0);
        due.is("RIGHT", g.log(0, 2), 10);
        due.is("years", g.log(0, 3), 1);
        due.is("who was SILENT", g.log(0, 4), 1);
        due.is("others", g.log(0, 5), NONE);
        due.is("others below", g.log(0, -1), NONE);
        due.is("no such row", g.log(1, 0), NONE);
        due.is("below", g.log(-2, 0), NONE);
        due.is("far below", g.log(Integer.MIN_VALUE, 0), NONE);
        due.is("far above", g.log(Integer.MAX_VALUE, 4), NONE);
    }

    private static void logOfForty() {
        // Nobody WOULD but by hand: whoever is PAIRED is SILENT at once, a row a May.
        MayGreen g = Village.of("left a 99;right p 0;ahead 1;");
        for (int k = 0; k < 45; k++) {
            g.join(0, 10);
            g.may(1);
            due.is("rows", g.log(NONE, 0), Math.min(40, k + 1));
        }
        due.is("the eldest is the sixth", g.log(0, 0), 5);
        due.is("the latest", g.log(39, 0), 44);
        due.is("the one in the middle", g.log(20, 0), 25);
        due.is("no 41st", g.log(40, 0), NONE);
        due.is("for no years", g.log(39, 3), 0);
    }

    private static void blocks() {
        MayGreen g = Village.of(RUSH);
        due.is("all are alone: all couples", g.blocks(NONE), 4);
        due.is("a and p", g.blocks(0), 10);
        due.is("a and q", g.blocks(1), 11);
        due.is("b and p", g.blocks(2), 110);
        due.is("b and q", g.blocks(3), 111);
        due.is("no fifth", g.blocks(4), NONE);
        due.is("below", g.blocks(-2), NONE);
        g.join(0, 10);
        g.join(1, 11);
        due.is("b and p would sooner", g.blocks(NONE), 1);
        due.is("b and p", g.blocks(0), 110);
        g.part(0);
        g.part(1);
        g.join(0, 11);
        g.join(1, 10);
        due.is("none", g.blocks(NONE), 0);
        due.is("none, no row", g.blocks(0), NONE);
        g.part(1);
        due.is("b is alone, and so is p", g.blocks(NONE), 2);
        due.is("a and p, though p likes b more", g.blocks(0), 10);
        MayGreen would = Village.of("left a 5;right p 0;");
        due.is("a wouldn't", would.blocks(NONE), 0);
        due.is("one village's couples alone", would.blocks(0), NONE);
    }

    private static void parents() {
        MayGreen g = Village.of(LookTest.SURE);
        due.is("320 and twice 64", g.parents(NONE), 448);
        due.is("a", g.parents(0), 10);
        due.is("b has nobody", g.parents(1), NONE);
        due.is("p", g.parents(10), 0);
        due.is("q has nobody", g.parents(11), NONE);
        for (int nobody : NOBODY) {
            due.is("nobody", g.parents(nobody), VOID);
        }
        MayGreen like = Village.of(FOUR);
        due.is("all like: a has the least number", like.parents(0), 10);
        due.is("then b", like.parents(1), 11);
        due.is("320", like.parents(NONE), 320);
        MayGreen alone = Village.of("left a 5;right p 5;");
        due.is("nobody is ahead of all", alone.parents(0), NONE);
        due.is("160", alone.parents(NONE), 160);
        MayGreen first = Village.of("left a 5;left b 5;right p 5;");
        due.is("nobody for LEFT 0", first.parents(0), NONE);
        due.is("nobody for LEFT 1", first.parents(1), NONE);
        MayGreen next = Village.of("left a 5;left b 5;right p 4;");
        due.is("nobody for LEFT 0 first", next.parents(0), NONE);
        due.is("then p for LEFT 1", next.parents(1), 10);
        MayGreen sum = Village.of("left a 0;left b 0;right p 0;right q 0;fit a p 16;fit a q 15;fit b p 15;fit b q 0;");
        due.is("the sum counts, not the best pair: 600", sum.parents(NONE), 600);
        due.is("a has q", sum.parents(0), 11);
        sum.join(0, 10);
        sum.may(5);
        due.is("as at first", sum.parents(NONE), 600);
    }

    private static void life() {
        MayGreen g = Village.of(LookTest.SURE);
        due.is("1 year", g.life(1, 0), 384);
        due.is("3 years: one with the house", g.life(3, 0), 1472);
        due.is("by the PARENTS' way", g.life(3, 1), -32);
        due.is("100 years", g.life(100, 0), 38400 + 2 * 98 * 160);
        due.is("100 years by the PARENTS' way", g.life(100, 1), 38400 + 2 * 98 * 160 - 44800 - 98 * 160);
        due.is("0 years", g.life(0, 0), VOID);
        due.is("101 years", g.life(101, 0), VOID);
        due.is("others", g.life(1, 2), VOID);
        due.is("others below", g.life(1, -1), VOID);
        g.join(0, 11);
        due.is("whoever is PAIRED now", g.life(1, 0), 384);
        MayGreen known = Village.of(RUSH + "fit a p 16;fit b p 1;fit a q 2;fit b q 3;");
        due.is("a has q, b has p", known.life(1, 0), 2 * 20 + 2 * 10);
        known.join(1, 10);
        known.may(9);
        due.is("nothing KNOWN", known.life(1, 0), 60);
        MayGreen gain = Village.of("left a 4;right p 4;fit a p 16;");
        due.is("320 by 320", gain.life(1, 1), 0);
        MayGreen more = Village.of("left a 4;left b 6;right p 4;think a p 16 0 0;think b p 16 16 16;fit b p 1;fit a p 16;");
        due.is("b has p: 20, a 64", more.life(1, 0), 84);
        due.is("by 416", more.life(2, 1), 2 * (84 - 416));
    }

    private static void never() {
        MayGreen g = Village.of(LookTest.SURE);
        due.is("a and p", g.never(0), 1);
        due.is("by those who are alone", g.never(1), 240);
        g.may(1);
        due.is("tried", g.never(0), 0);
        due.is("b and q are LOST", g.never(1), 64);
        g.may(5);
        due.is("no house, no CHILDREN", g.never(1), 64);
        due.is("others", g.never(2), VOID);
        due.is("others below", g.never(-1), VOID);
        g.part(1);
        due.is("nothing LOST", g.never(1), 0);
        MayGreen two = Village.of(FOUR + "fit a q 16;fit b p 16;think b p 16 0 0;cow 99;");
        two.may(1);
        due.is("two never tried", two.never(0), 2);
        two.part(0);
        two.part(1);
        two.join(0, 11);
        two.may(1);
        due.is("a tried q, b wouldn't try p", two.never(0), 1);
    }

    private static void pairs() {
        MayGreen g = Village.of(LookTest.SURE);
        due.is("none", g.pairs(0, 0), 0);
        g.may(1);
        due.is("two", g.pairs(0, 0), 2);
        due.is("0 YESES", g.pairs(0, 1), 2);
        due.is("1 YES", g.pairs(1, 1), 0);
        g.part(0);
        g.may(2);
        due.is("2 YESES: b and q", g.pairs(2, 1), 1);
        due.is("1 YES: both", g.pairs(1, 1), 2);
        due.is("3 YESES", g.pairs(3, 1), 0);
        due.is("101 YESES", g.pairs(101, 1), NONE);
        due.is("-1 YESES", g.pairs(-1, 1), NONE);
        due.is("others", g.pairs(0, 2), NONE);
        due.is("others below", g.pairs(0, -1), NONE);
        due.is("all pairs, m 3", g.pairs(3, 0), 2);
        due.is("all pairs, m 100", g.pairs(100, 0), 2);
        due.is("all pairs, m 101", g.pairs(101, 0), NONE);
        due.is("all pairs, m -1", g.pairs(-1, 0), NONE);
        due.is("all pairs, m least", g.pairs(VOID, 0), NONE);
        due.is("all pairs, m most", g.pairs(2147483647, 0), NONE);
        g.may(50);
        g.may(50);
        due.is("100 YESES or more", g.pairs(100, 1), 2);
    }

    private static void image() {
        MayGreen g = new MayGreen();
        due.is("without a village", g.image(0), false);
        due.is("refused", g.status(2), 1);
        due.is("none such, without a village", g.image(3), false);
        due.is("refused, none such", g.status(0), 1);
        Village.write(g, LookTest.SURE);
        g.village();
        due.is("image 0", g.image(0), true);
        due.is("image 2", g.image(2), true);
        due.is("image 3", g.image(3), false);
        due.is("image -1", g.image(-1), false);
        due.is("image MIN", g.image(Integer.MIN_VALUE), false);
        due.is("refused then", g.status(0), 4);
        due.is("refused for 2", g.status(2), 1);
    }

    /** Four years, by lots of a seed, with an image of them. */
    private static MayGreen fourYears() {
        MayGreen g = Village.of("left a 0;right b 0;right c 0;think a b 8 16 0;fit a b 0;fit a c 7;child 7 1;ahead 1;");
        g.way(3);
        g.seed(5);
        g.may(4);
        g.image(1);
        return g;
    }

    private static MayGreen goneOnFrom(int more) {
        MayGreen g = fourYears();
        g.may(10);
        g.way(1);
        g.seed(9);
        g.part(0);
        g.join(0, 10);
        g.may(3);
        due.is("gone on from", g.on(1), true);
        if (more > 0) {
            g.may(more);
        }
        return g;
    }

    private static void on() {
        MayGreen none = Village.of(FOUR);
        due.is("no image", none.on(0), false);
        due.is("none such", none.on(3), false);
        due.is("none such below", none.on(-1), false);
        due.is("refused", none.status(0), 3);
        MayGreen later = fourYears();
        later.may(10);
        due.is("as then", Seen.of(goneOnFrom(0)).equals(Seen.of(fourYears())), true);
        due.is("the same years by the same lots", Seen.of(goneOnFrom(10)).equals(Seen.of(later)), true);
        MayGreen g = goneOnFrom(10);
        due.is("another one is not kept", g.on(0), false);
        due.is("again", g.on(1), true);
        due.is("as then again", Seen.of(g).equals(Seen.of(fourYears())), true);
        g.image(2);
        g.may(1);
        g.image(1);
        due.is("the one", g.on(2), true);
        due.is("YEAR 4", g.count(2), 4);
        due.is("the other", g.on(1), true);
        due.is("YEAR 5", g.count(2), 5);
        due.is("REFUSED is not kept", g.status(0), 1);
    }

    private static void status() {
        MayGreen g = Village.of(FOUR);
        due.is("others", g.status(3), NONE);
        due.is("others below", g.status(-1), NONE);
        due.is("others far", g.status(Integer.MIN_VALUE), NONE);
        g.way(7);
        g.join(0, 14);
        g.part(-1);
        g.image(3);
        g.on(2);
        due.is("none such", g.status(0), 5);
        g.end(1);
        g.village();
        g.seed(-5);
        g.may(51);
        g.part(0);
        due.is("can't be otherwise", g.status(2), 5);
        due.is("room there is", g.status(1), 0);
        due.is("nothing else is changed", Seen.of(g).equals(Seen.of(Village.of(FOUR))), true);
        g.person(99, 9);
        g.log(99, 9);
        due.is("asking is not refused", g.status(0) + g.status(1) + g.status(2), 10);
    }
}
