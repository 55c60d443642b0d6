/** Promises 6 to 18: what people are, know, think, like, and reckon. */
final class LookTest {
    private static final int NONE = MayGreen.NONE;
    private static final int VOID = MayGreen.VOID;
    private static final int[] NOBODY = {-2147483648, -2, -1, 2, 4, 9, 12, 14, 2147483647};
    /** Every lot of it is told ahead: a and p have GOOD years alone, b and q POOR ones, and a CHILD comes each year. */
    static final String SURE = "left a 3;left b 4;right p 2;right q 4;think a p 8 16 0;think p a 8 8 8;"
        + "fit a p 16;fit b q 0;worth 10 2;house 2 5;child 16 3;cow 4;ahead 1;";
    /** Likes b, who fits nobody, as much as c at first. */
    private static final String FICKLE = "left a 0;right b 0;right c 0;think a b 8 16 0;fit a b 0;";
    private static final Due due = new Due("LookTest");

    public static void main(String[] args) {
        person();
        earned();
        two();
        think();
        shown();
        shownOfNothing();
        liking();
        sooner();
        best();
        bestInOrder();
        bestWithHouseAndChildren();
        act();
        silent();
        bar();
        barOfManyYears();
        price();
        waits();
        due.close();
    }

    private static void person() {
        MayGreen g = Village.of(SURE);
        due.is("ALONE a", g.person(0, 0), 3);
        due.is("ALONE q", g.person(11, 0), 4);
        due.is("with nobody", g.person(0, 1), NONE);
        due.is("no years", g.person(0, 2), 0);
        g.join(0, 11);
        due.is("with q", g.person(0, 1), 11);
        due.is("with a", g.person(11, 1), 0);
        due.is("not a year yet", g.person(11, 2), 0);
        due.is("b with nobody", g.person(1, 1), NONE);
        due.is("others", g.person(0, 3), VOID);
        due.is("others below", g.person(0, -1), VOID);
        for (int nobody : NOBODY) {
            due.is("nobody " + nobody, g.person(nobody, 0), VOID);
        }
        MayGreen sure = Village.of(SURE);
        sure.may(3);
        due.is("three years on end", sure.person(10, 2), 3);
        sure.part(0);
        due.is("none on end", sure.person(10, 2), 0);
        sure.join(0, 10);
        due.is("none on end anew", sure.person(0, 2), 0);
        sure.may(1);
        due.is("one on end anew", sure.person(0, 2), 1);
    }

    private static void earned() {
        MayGreen g = Village.of(SURE);
        due.is("nothing", g.earned(0), 0);
        due.is("year 1", g.may(1), 1);
        due.is("a: W", g.earned(0), 10);
        due.is("p: W", g.earned(10), 10);
        due.is("b: V", g.earned(1), 2);
        due.is("q: V", g.earned(11), 2);
        g.may(1);
        due.is("a: W and a CHILD", g.earned(0), 23);
        due.is("q: V and a CHILD", g.earned(11), 7);
        g.may(1);
        due.is("a: W, two CHILDREN, the house", g.earned(0), 44);
        due.is("b: V, two CHILDREN, the house", g.earned(1), 20);
        for (int nobody : NOBODY) {
            due.is("earned by nobody", g.earned(nobody), VOID);
        }
        MayGreen cow = Village.of(FICKLE + "fit a c 0;cow 4;ahead 1;");
        cow.may(2);
        due.is("below 0 by the COW", cow.earned(0), -4);
        due.is("whom the silent one leaves pays none", cow.earned(10), 0);
        MayGreen alone = Village.of("left a 99;right b 10;right c 0;");
        alone.may(4);
        due.is("alone", alone.earned(0), 396);
        due.is("alone too", alone.earned(10), 40);
    }

    private static void two() {
        MayGreen g = Village.of(SURE);
        due.is("F", g.two(0, 10, 3), 16);
        due.is("F the other way round", g.two(11, 1, 3), 0);
        due.is("F without", g.two(0, 11, 3), 8);
        g.may(3);
        due.is("GOOD", g.two(0, 10, 0), 3);
        due.is("POOR", g.two(0, 10, 1), 0);
        due.is("GOOD of the other pair", g.two(11, 1, 0), 0);
        due.is("POOR of the other pair", g.two(1, 11, 1), 3);
        due.is("CHILDREN", g.two(10, 0, 2), 3);
        due.is("YESES", g.two(10, 0, 4), 2);
        due.is("YESES of no pair", g.two(0, 11, 4), 0);
        g.may(6);
        due.is("GOOD up to 4", g.two(0, 10, 0), 4);
        due.is("POOR up to 4", g.two(1, 11, 1), 4);
        due.is("CHILDREN go on", g.two(1, 11, 2), 9);
        g.part(10);
        due.is("YESES behind the end", g.two(0, 10, 4), 0);
        due.is("KNOWN behind the end", g.two(0, 10, 0), 4);
        due.is("CHILDREN behind the end", g.two(0, 10, 2), 9);
        due.is("like SIDES", g.two(0, 1, 3), NONE);
        due.is("one", g.two(10, 10, 3), NONE);
        due.is("others", g.two(0, 10, 5), NONE);
        due.is("others below", g.two(0, 10, -1), NONE);
        for (int nobody : NOBODY) {
            due.is("two with nobody", g.two(nobody, 10, 3), NONE);
            due.is("two with nobody behind", g.two(0, nobody, 3), NONE);
        }
        MayGreen many = Village.of(SURE);
        many.may(50);
        many.may(50);
        due.is("99 CHILDREN at most", many.two(0, 10, 2), 99);
        many.may(1);
        due.is("99 CHILDREN still", many.two(1, 11, 2), 99);
    }

    private static void think() {
        MayGreen g = Village.of("left a 0;right b 0;right c 0;think a b 16 7 3;think b a 0 5 5;");
        due.is("C", g.think(0, 10, 0), 16);
        due.is("G", g.think(0, 10, 1), 7);
        due.is("P", g.think(0, 10, 2), 3);
        due.is("C of b", g.think(10, 0, 0), 0);
        due.is("G of b", g.think(10, 0, 1), 5);
        due.is("P of b", g.think(10, 0, 2), 5);
        due.is("C without", g.think(0, 11, 0), 8);
        due.is("G without", g.think(11, 0, 1), 12);
        due.is("P without", g.think(11, 0, 2), 4);
        due.is("others", g.think(0, 10, 3), NONE);
        due.is("others below", g.think(0, 10, -1), NONE);
        due.is("of one's own SIDE", g.think(10, 11, 0), NONE);
        due.is("of nobody", g.think(0, 12, 0), NONE);
        due.is("by nobody", g.think(-1, 10, 0), NONE);
    }

    private static void shown() {
        MayGreen g = Village.of(SURE);
        due.is("RIGHT at first", g.shown(0, 10, 0), 500);
        due.is("GOOD at first", g.shown(0, 10, 1), 500);
        g.may(1);
        due.is("RIGHT for sure", g.shown(0, 10, 0), 1000);
        due.is("GOOD for sure", g.shown(0, 10, 1), 1000);
        due.is("p knows the same, and thinks otherwise", g.shown(10, 0, 0), 500);
        due.is("b of q: 32 by 128", g.shown(1, 11, 0), 250);
        due.is("b of q: 768 by 2048", g.shown(1, 11, 1), 375);
        g.may(1);
        due.is("b of q: 128 by 1280", g.shown(1, 11, 0), 100);
        due.is("b of q: 6144 by 20480", g.shown(11, 1, 1), 300);
        due.is("others", g.shown(0, 10, 2), NONE);
        due.is("others below", g.shown(0, 10, -1), NONE);
        due.is("of one's own SIDE", g.shown(0, 1, 0), NONE);
        due.is("of nobody", g.shown(0, 12, 1), NONE);
        due.is("by nobody", g.shown(2, 10, 1), NONE);
        MayGreen cut = Village.of("left a 0;right b 0;think a b 5 11 2;");
        due.is("5 by 16, cut", cut.shown(0, 10, 0), 312);
        due.is("77 by 256, cut", cut.shown(0, 10, 1), 300);
    }

    private static void shownOfNothing() {
        MayGreen g = Village.of("left a 0;right b 0;think a b 16 16 0;fit a b 0;think b a 0 16 0;ahead 1;");
        due.is("sure at first", g.shown(0, 10, 0), 1000);
        due.is("0 ^ 0 is 1", g.shown(10, 0, 0), 0);
        due.is("P at first", g.shown(10, 0, 1), 0);
        g.join(0, 10);
        g.may(1);
        due.is("a POOR year", g.two(0, 10, 1), 1);
        due.is("R + U is 0: RIGHT", g.shown(0, 10, 0), 0);
        due.is("R + U is 0: GOOD", g.shown(0, 10, 1), 0);
        due.is("R + U isn't 0", g.shown(10, 0, 0), 0);
        due.is("LIKING by V alone", g.liking(0, 10), 0);
    }

    private static void liking() {
        MayGreen g = Village.of(SURE);
        due.is("a of p", g.liking(0, 10), 6000);
        g.may(1);
        due.is("a of p: W and a CHILD", g.liking(0, 10), 13000);
        due.is("p of a: half and a CHILD", g.liking(10, 0), 9000);
        due.is("b of q: 375, a CHILD", g.liking(1, 11), 8000);
        due.is("a of q", g.liking(0, 11), 6000);
        g.may(2);
        due.is("no house in LIKING", g.liking(0, 10), 19000);
        due.is("of one's own SIDE", g.liking(0, 1), NONE);
        due.is("of oneself", g.liking(0, 0), NONE);
        for (int nobody : NOBODY) {
            due.is("of nobody", g.liking(0, nobody), NONE);
            due.is("by nobody", g.liking(nobody, 10), NONE);
        }
    }

    private static void sooner() {
        MayGreen g = Village.of("left a 0;right p 0;right q 0;right r 0;think a r 16 13 0;");
        due.is("more", g.sooner(0, 12, 10), 1);
        due.is("less", g.sooner(0, 10, 12), 0);
        due.is("alike, number less", g.sooner(0, 10, 11), 1);
        due.is("alike, number more", g.sooner(0, 11, 10), 0);
        due.is("the same one", g.sooner(0, 11, 11), 0);
        due.is("q of one's own SIDE", g.sooner(0, 0, 11), NONE);
        due.is("r of one's own SIDE", g.sooner(0, 11, 0), NONE);
        due.is("q nobody", g.sooner(0, 13, 11), NONE);
        due.is("r nobody", g.sooner(0, 11, -1), NONE);
        due.is("p nobody", g.sooner(1, 11, 10), NONE);
        due.is("p RIGHT", g.sooner(10, 0, 0), 0);
        due.is("p RIGHT, nobody else", g.sooner(10, 0, 1), NONE);
        MayGreen known = Village.of("left a 0;right p 0;right q 0;fit a p 0;fit a q 16;");
        known.join(0, 10);
        known.may(1);
        due.is("a POOR year KNOWN", known.sooner(0, 10, 11), 0);
        due.is("nothing KNOWN of the other", known.sooner(0, 11, 10), 1);
        known.may(1);
        due.is("a GOOD year of the other", known.two(0, 11, 0), 1);
        MayGreen child = Village.of("left a 0;right p 0;right q 0;fit a q 0;child 16 4;cow 99;");
        child.join(0, 11);
        child.may(1);
        due.is("a CHILD counts: 3750 and 4000", child.sooner(0, 11, 10), 1);
    }

    private static void best() {
        MayGreen g = Village.of(SURE);
        due.is("1 May", g.best(0, 1, 0), 6000);
        due.is("1 May: p", g.best(0, 1, 1), 10);
        due.is("2 Mays", g.best(0, 2, 0), 12000);
        due.is("2 Mays: p", g.best(0, 2, 1), 10);
        due.is("0 Mays", g.best(0, 0, 0), VOID);
        due.is("5 Mays", g.best(0, 5, 0), VOID);
        due.is("others", g.best(0, 1, 2), VOID);
        due.is("others below", g.best(0, 1, -1), VOID);
        for (int nobody : NOBODY) {
            due.is("nobody's best", g.best(nobody, 1, 0), VOID);
        }
        g.may(1);
        due.is("b stays: 8000 and 375 * 14000 and 625 * 12400", g.best(1, 2, 0), 21000);
        due.is("b stays with q", g.best(1, 2, 1), 11);
        MayGreen alone = Village.of("left a 20;right b 0;");
        due.is("alone for 4 Mays", alone.best(0, 4, 0), 80000);
        due.is("alone", alone.best(0, 4, 1), NONE);
        MayGreen cut = Village.of("left a 0;right b 0;think a b 5 11 2;worth 7 3;");
        due.is("300 * 7 and 700 * 3", cut.best(0, 1, 0), 4200);
        // Behind GOOD: R 5 * 11, U 11 * 2: 649 by 1232, 526, 5104. Behind POOR: R 5 * 5, U 11 * 14: 583 by 2864,
        // 203, 3812. 300 * 5104 + 700 * 3812 is 4199600, cut 4199.
        due.is("cut", cut.best(0, 2, 0), 8399);
    }

    private static void bestInOrder() {
        MayGreen g = Village.of("left a 5;right p 0;right q 0;cow 0;");
        due.is("alone is ahead of like others", g.best(0, 1, 1), NONE);
        g.join(0, 11);
        due.is("to stay is ahead of alone", g.best(0, 1, 1), 11);
        MayGreen two = Village.of("left a 5;right p 0;right q 0;think a q 16 0 0;");
        two.join(0, 11);
        due.is("then alone", two.best(0, 1, 1), NONE);
        MayGreen three = Village.of("left a 0;right p 0;right q 0;right r 0;think a p 16 0 0;");
        three.join(0, 10);
        due.is("then the least number", three.best(0, 1, 1), 11);
        due.is("p, of RIGHT", three.best(10, 1, 1), 0);
    }

    private static void bestWithHouseAndChildren() {
        MayGreen g = Village.of("left a 0;right p 0;think a p 16 16 16;fit a p 16;house 2 5;child 16 3;");
        due.is("the house in the third year", g.best(0, 3, 0), 35000);
        due.is("and the fourth", g.best(0, 4, 0), 50000);
        g.join(0, 10);
        g.may(1);
        due.is("13 by a CHILD, no more CHILDREN ahead", g.best(0, 3, 0), 13000 + 18000 + 18000);
        g.part(0);
        due.is("years from 0 on, the CHILD stays", g.best(0, 3, 0), 13000 + 13000 + 18000);
        MayGreen four = Village.of("left a 0;right p 0;think a p 8 16 0;think p a 8 9 7;fit a p 16;");
        four.may(4);
        // R 8 * 9^4, U 8 * 7^4: 52488 and 19208; (52488 * 9 + 19208 * 7) * 1000 by 16 * 71696 is 529 (cut).
        due.is("4 GOOD", four.shown(10, 0, 1), 529);
        // Behind a 5th GOOD year nothing is otherwise: 5290 again. Behind a POOR one R 367416, U 172872: 8360 by
        // 16 * 1000's of 540288: (367416 * 9 + 172872 * 7) * 1000 by 8644608 is 522.
        due.is("GOOD up to 4 in years ahead", four.best(10, 2, 0), 5290 + (529 * 5290 + 471 * 5220) / 1000);
    }

    private static void act() {
        MayGreen g = Village.of(SURE);
        due.is("alone first", g.act(0, 2, NONE), 9000);
        due.is("p first", g.act(0, 2, 10), 12000);
        due.is("q first", g.act(0, 2, 11), 12000);
        due.is("one May alone", g.act(0, 1, NONE), 3000);
        g.may(1);
        due.is("b alone: less the COW", g.act(1, 1, NONE), 0);
        due.is("b to p: less the COW", g.act(1, 1, 10), 2000);
        due.is("b stays", g.act(1, 1, 11), 8000);
        due.is("b alone, then q", g.act(1, 2, NONE), 8000);
        due.is("of one's own SIDE", g.act(0, 1, 1), VOID);
        due.is("to oneself", g.act(0, 1, 0), VOID);
        due.is("0 Mays", g.act(0, 0, 10), VOID);
        due.is("5 Mays", g.act(0, 5, 10), VOID);
        for (int nobody : NOBODY) {
            due.is("nobody's act", g.act(nobody, 1, 10), VOID);
            if (nobody != NONE) {
                due.is("to nobody", g.act(0, 1, nobody), VOID);
            }
        }
        MayGreen below = Village.of("left a 0;right b 0;cow 9;");
        below.join(0, 10);
        due.is("below 0", below.act(0, 1, NONE), -9000);
    }

    private static void silent() {
        MayGreen g = Village.of(FICKLE + "cow 4;ahead 1;");
        due.is("alone is not SILENT", g.silent(0, 1), 0);
        g.may(1);
        due.is("SILENT: 5000 less 4000", g.silent(0, 1), 1);
        due.is("b would stay", g.silent(10, 1), 0);
        due.is("c is alone", g.silent(11, 1), 0);
        due.is("0 Mays", g.silent(0, 0), NONE);
        due.is("5 Mays", g.silent(0, 5), NONE);
        for (int nobody : NOBODY) {
            due.is("nobody is SILENT", g.silent(nobody == 2 ? 3 : nobody, 1), NONE);
        }
        MayGreen dear = Village.of(FICKLE + "cow 5;ahead 1;");
        dear.may(1);
        due.is("alike: to stay is ahead", dear.silent(0, 1), 0);
        due.is("SILENT for 2 Mays", dear.silent(0, 2), 1);
    }

    private static void bar() {
        MayGreen g = Village.of(SURE.replace("cow 4", "cow 1"));
        due.is("1 POOR: 2000 by 5000", g.bar(0, 10, 1, 1), 1);
        due.is("the COW holds", Village.of(SURE).bar(0, 10, 1, 1), 0);
        due.is("0 years", g.bar(0, 10, 0, 1), NONE);
        due.is("7 years", g.bar(0, 10, 7, 1), NONE);
        due.is("0 Mays", g.bar(0, 10, 1, 0), NONE);
        due.is("5 Mays", g.bar(0, 10, 1, 5), NONE);
        due.is("of one's own SIDE", g.bar(0, 1, 1, 1), NONE);
        for (int nobody : NOBODY) {
            due.is("of nobody", g.bar(0, nobody, 1, 1), NONE);
            due.is("by nobody", g.bar(nobody == 2 ? 3 : nobody, 10, 1, 1), NONE);
        }
        MayGreen never = Village.of("left a 20;right b 0;");
        due.is("no a does", never.bar(0, 10, 6, 1), NONE);
        due.is("b would at once", never.bar(10, 0, 6, 1), 0);
        MayGreen fickle = Village.of(FICKLE + "cow 4;");
        fickle.join(0, 11);
        fickle.may(1);
        due.is("KNOWN of others counts", fickle.two(0, 11, 0) + fickle.two(0, 11, 1), 1);
        // The lots from 0 on: 0, GOOD below 8. a likes c 6250 then, and b with a POOR year 0: 6250 - 4000.
        due.is("a is GOOD with c", fickle.liking(0, 11), 6250);
        due.is("another one than whom a has", fickle.bar(0, 10, 1, 1), 1);
        due.is("whom a has, but otherwise KNOWN: 3750 by 1000", fickle.bar(0, 11, 1, 1), 0);
        due.is("nothing is changed", fickle.liking(0, 11), 6250);
    }

    private static void barOfManyYears() {
        // By C 8, G 12, P 4 with a GOOD and b POOR: g is 250 + 500 * 3^(a-b) by (3^(a-b) + 1).
        MayGreen g = Village.of("left a 0;right p 0;right q 0;think a q 16 8 0;");
        due.is("q brings 5000: as many GOOD as POOR", g.bar(0, 10, 2, 1), 1);
        due.is("of 4", g.bar(0, 10, 4, 1), 2);
        due.is("of 5", g.bar(0, 10, 5, 1), 3);
        due.is("of 6", g.bar(0, 10, 6, 1), 3);
        MayGreen house = Village.of("left a 0;right p 0;right q 0;think a q 16 8 0;house 5 2;");
        due.is("no house yet", house.bar(0, 10, 4, 1), 2);
        due.is("the house: 3750 and 2000", house.bar(0, 10, 5, 1), 2);
        MayGreen most = Village.of("left a 0;right p 0;right q 0;think a q 16 11 0;");
        due.is("6875 by 5 GOOD, 1 POOR", most.bar(0, 10, 6, 1), 4);
        MayGreen cap = Village.of("left a 0;right p 0;right q 0;think a p 8 9 7;think a q 16 16 0;fit a q 0;");
        due.is("10000 by none", cap.bar(0, 10, 6, 1), NONE);
    }

    private static void price() {
        MayGreen g = Village.of(FICKLE + "cow 1;ahead 1;");
        due.is("not PAIRED", g.price(0, 1), NONE);
        g.may(1);
        due.is("5000 by 0", g.price(0, 1), 5);
        due.is("b stays for none", g.price(10, 1), 0);
        due.is("c isn't PAIRED", g.price(11, 1), NONE);
        due.is("the COW is as it was", g.act(0, 1, NONE), -1000);
        due.is("0 Mays", g.price(0, 0), NONE);
        due.is("5 Mays", g.price(0, 5), NONE);
        for (int nobody : NOBODY) {
            due.is("nobody's price", g.price(nobody == 2 ? 3 : nobody, 1), NONE);
        }
        MayGreen far = Village.of("left a 0;right p 0;right q 0;think a p 16 0 0;worth 99 0;think a q 16 16 0;");
        far.join(0, 10);
        due.is("99 for 1 May", far.price(0, 1), 99);
        due.is("198 for 2", far.price(0, 2), 198);
        due.is("396 for 4", far.price(0, 4), 396);
        MayGreen child = Village.of("left a 0;right p 0;right q 0;fit a q 16;think a q 16 16 0;worth 10 0;child 16 99;");
        child.join(0, 11);
        child.may(11);
        child.part(0);
        child.join(0, 10);
        due.is("11 CHILDREN of 99: 1089 and 10 less 5", child.price(0, 1), NONE);
        MayGreen alone = Village.of("left a 99;right p 0;think a p 16 0 0;worth 0 0;");
        alone.join(0, 10);
        due.is("to be alone", alone.price(0, 3), 297);
    }

    private static void waits() {
        MayGreen g = Village.of(SURE);
        due.is("b waits for p", g.waits(1, 10, 2), -2000);
        due.is("1 May", g.waits(1, 10, 1), VOID);
        due.is("5 Mays", g.waits(1, 10, 5), VOID);
        due.is("of one's own SIDE", g.waits(1, 0, 2), VOID);
        for (int nobody : NOBODY) {
            due.is("for nobody", g.waits(0, nobody, 2), VOID);
            due.is("nobody waits", g.waits(nobody == 2 ? 3 : nobody, 10, 2), VOID);
        }
        g.may(1);
        due.is("a pair", g.waits(1, 11, 2), VOID);
        due.is("a pair the other way round", g.waits(11, 1, 2), VOID);
        due.is("the COW first, by 21000", g.waits(1, 10, 2), -15000);
        MayGreen worth = Village.of("left a 0;right p 0;right q 0;think a p 16 16 0;think a q 16 0 0;");
        due.is("10000 by none else", worth.waits(0, 10, 2), 10000);
        due.is("30000 by none else", worth.waits(0, 10, 4), 30000);
        due.is("p can't be had, but by waiting", worth.waits(0, 11, 3), -30000);
        worth.join(0, 11);
        due.is("by what there is", worth.waits(0, 10, 2), 10000);
    }
}
