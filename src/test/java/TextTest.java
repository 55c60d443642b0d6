/** Promises 1 to 5 and 34: the text, its FAULT and the VILLAGE that comes of it. */
final class TextTest {
    private static final int NONE = MayGreen.NONE;
    private static final int VOID = MayGreen.VOID;
    private static final String PAIR = "left a 1;right b 2;";
    private static final Due due = new Due("TextTest");

    public static void main(String[] args) {
        constants();
        newObject();
        feed();
        end();
        faultOfTokens();
        faultOfPeople();
        faultOfThinkAndFit();
        faultOfThoseToldOnce();
        faultAtALinesWord();
        village();
        defaults();
        villageStartsAnew();
        count();
        due.close();
    }

    private static void constants() {
        due.is("NONE", MayGreen.NONE, -1);
        due.is("VOID", MayGreen.VOID, Integer.MIN_VALUE);
    }

    private static void newObject() {
        MayGreen g = new MayGreen();
        for (int what = 0; what <= 5; what++) {
            due.is("new: count", g.count(what), 0);
        }
        for (int reason = 0; reason <= 2; reason++) {
            due.is("new: status", g.status(reason), 0);
        }
        due.is("new: fault", g.fault(), 0);
        due.is("new: person", g.person(0, 0), VOID);
        due.is("new: earned", g.earned(10), VOID);
        due.is("new: two", g.two(0, 10, 0), NONE);
        due.is("new: think", g.think(0, 10, 0), NONE);
        due.is("new: shown", g.shown(0, 10, 0), NONE);
        due.is("new: liking", g.liking(0, 10), NONE);
        due.is("new: sooner", g.sooner(0, 10, 11), NONE);
        due.is("new: best", g.best(0, 1, 0), VOID);
        due.is("new: act", g.act(0, 1, NONE), VOID);
        due.is("new: silent", g.silent(0, 1), NONE);
        due.is("new: bar", g.bar(0, 10, 1, 1), NONE);
        due.is("new: price", g.price(0, 1), NONE);
        due.is("new: waits", g.waits(0, 10, 2), VOID);
        due.is("new: green", g.green(0, 0), VOID);
        due.is("new: log", g.log(NONE, 0), 0);
        due.is("new: log row", g.log(0, 0), NONE);
        due.is("new: blocks", g.blocks(NONE), 0);
        due.is("new: blocks row", g.blocks(0), NONE);
        due.is("new: parents", g.parents(NONE), VOID);
        due.is("new: life", g.life(1, 0), VOID);
        due.is("new: never", g.never(0), VOID);
        due.is("new: pairs", g.pairs(0, 0), 0);
        due.is("new: pairs of YESES", g.pairs(0, 1), 0);
        due.is("new: pairs, an m that can't be", g.pairs(-1, 0), NONE);
        due.is("new: pairs of YESES that can't be", g.pairs(101, 1), NONE);
        due.is("asking is never refused", g.status(0) + g.status(1) + g.status(2), 0);
    }

    private static void feed() {
        MayGreen g = new MayGreen();
        int left = 'l' << 24 | 'e' << 16 | 'f' << 8 | 't';
        int blanks = 0x20202020;
        for (int k = 1; k <= 25; k++) {
            due.is("feed", g.feed(left, blanks, blanks, blanks, blanks), 20 * k);
        }
        due.is("fed", g.count(5), 500);
        due.is("one left after another", g.fault(), 20);
        due.is("feed past 500", g.feed(left, left, left, left, left), NONE);
        due.is("no room", g.status(1), 1);
        due.is("still", g.count(5), 500);
        due.is("cut", g.end(481), true);
        due.is("feed past 500 by one", g.feed(left, left, left, left, left), NONE);
        due.is("no room again", g.status(1), 2);
        due.is("cut more", g.end(480), true);
        due.is("feed to 500", g.feed(0, 0, 0, 0, -1), 500);
        due.is("none else refused", g.status(0) + g.status(2), 0);
        due.is("cut to one word", g.end(3), true);
        due.is("a byte of no token behind", g.feed(blanks, left, -1, 0, blanks), 23);
        due.is("its place is not the first fault", g.fault(), 0);
        MayGreen high = new MayGreen();
        high.feed(0x20202020, 0x20FF2020, 0, 0, 0);
        due.is("byte 255", high.fault(), 5);
        MayGreen low = new MayGreen();
        low.feed(0x0A0A0A80, 0, 0, 0, 0);
        due.is("byte 128", low.fault(), 3);
    }

    private static void end() {
        MayGreen g = new MayGreen();
        due.is("end(0) of none", g.end(0), true);
        due.is("end(1) of none", g.end(1), false);
        due.is("end(-1)", g.end(-1), false);
        due.is("refused", g.status(2), 2);
        g.feed(0, 0, 0, 0, 0);
        due.is("end(21) of 20", g.end(21), false);
        due.is("end(20) of 20", g.end(20), true);
        due.is("end(MAX)", g.end(Integer.MAX_VALUE), false);
        due.is("end(MIN)", g.end(Integer.MIN_VALUE), false);
        due.is("bytes", g.count(5), 20);
        due.is("end(7)", g.end(7), true);
        due.is("bytes then", g.count(5), 7);
        due.is("end(8) of 7", g.end(8), false);
        due.is("refused for 2", g.status(2), 6);
        due.is("refused for others", g.status(0) + g.status(1), 0);
    }

    private static void fault(String text, int place) {
        due.is("fault of '" + text.replace('\n', '|') + "'", Village.faultOf(text), place);
    }

    private static void faultOfTokens() {
        fault("", 0);
        fault("  \n ", 4);
        fault(PAIR, NONE);
        fault(" \n" + PAIR + "\n \n", NONE);
        fault("left\na\n1\n;\nright b 2\n;", NONE);
        fault("left a1;right b2;", NONE);
        fault("lefta1;", 0);
        fault("left a 1;right b 2;;", 19);
        fault("left a 1\t;", 8);
        fault("left A 1;", 5);
        fault("Left a 1;", 0);
        fault("left a_b 1;", 6);
        fault("left a -1;", 7);
        fault("left a 1.", 8);
        fault("left a 1", 8);
        fault("left a 1  ", 10);
        fault("left a", 6);
        fault("left", 4);
        fault("left a 1;", 9);
        fault("right a 1; ", 11);
        fault("5;", 0);
        fault(";", 0);
        fault("stay 1;\t", 0);
        fault("left a 1 2;", 9);
        fault("left a;", 6);
        fault("left a b;", 7);
        fault("left 1 a;", 5);
        fault("left ;", 5);
        fault("lef", 0);
        fault("left a 1;rightx b 2;", 9);
        fault(PAIR + "\u0000", 19);
        fault(PAIR + "\u00e9", 19);
        fault("left a 1;\r\nright b 2;", 9);
    }

    private static void faultOfPeople() {
        fault("left a 0;right b 99;", NONE);
        fault("left a 100;", 7);
        fault("left a 000000000000099;right b 0;", NONE);
        fault("left a 4294967296;", 7);
        fault("left a 99999999999999999999999999;", 7);
        fault("left a 1;left a 1;", 14);
        fault("left a 1;right a 1;", 15);
        fault("right a 1;left a 1;", 15);
        fault("left abcdefgh 1;right abcdefgi 1;", NONE);
        fault("left abcdefghi 1;", 5);
        fault("left zzzzzzzz 1;right aaaaaaaa 1;", NONE);
        for (String word : "left right think fit worth house child cow ahead".split(" ")) {
            fault("left " + word + " 1;", 5);
        }
        fault("left lefts 1;right co 1;", NONE);
        fault("left a 1;left b 1;left c 1;left d 1;right e 1;right f 1;right g 1;right h 1;", NONE);
        fault("left a 1;left b 1;left c 1;left d 1;left e 1;", 36);
        fault("right a 1;right b 1;right c 1;right d 1;left z 1;right", 49);
    }

    private static void faultOfThinkAndFit() {
        fault(PAIR + "think a b 16 16 16;think b a 0 0 0;fit a b 16;", NONE);
        fault(PAIR + "think a b 17 0 0;", 29);
        fault(PAIR + "think a b 0 17 0;", 31);
        fault(PAIR + "think a b 0 3 4;", 33);
        fault(PAIR + "think a b 0 3 3;", NONE);
        fault(PAIR + "think a b 0 3;", 32);
        fault(PAIR + "think a a 1 1 1;", 27);
        fault(PAIR + "think c b 1 1 1;", 25);
        fault(PAIR + "think a c 1 1 1;", 27);
        fault(PAIR + "think left b 1 1 1;", 25);
        fault(PAIR + "think abcdefghi b 1 1 1;", 25);
        fault(PAIR + "left c 1;think a c 1 1 1;", 36);
        fault(PAIR + "think a b 1 1 1;think a b 1 1 1;", 43);
        fault(PAIR + "think b a 1 1 1;think a b 1 1 1;think b a 1 1 1;", 59);
        fault("left a 1;think a b 1 1 1;right b 1;", 17);
        fault(PAIR + "fit a b 17;", 27);
        fault(PAIR + "fit b a 1;", 23);
        fault(PAIR + "fit a a 1;", 25);
        fault(PAIR + "fit a c 1;", 25);
        fault(PAIR + "fit c b 1;", 23);
        fault(PAIR + "fit a b 1;fit a b 1;", 35);
        fault(PAIR + "right c 1;fit a c 1;fit a b 1;fit a c 1;", 55);
    }

    private static void faultOfThoseToldOnce() {
        fault(PAIR + "worth 99 99;house 9 99;child 16 99;cow 999;ahead 4;", NONE);
        fault(PAIR + "ahead 1;cow 0;child 0 0;house 1 0;worth 0 0;", NONE);
        fault("worth 100 0;", 6);
        fault("worth 1 100;", 8);
        fault("worth 1;", 7);
        fault("worth 1 2 3;", 10);
        fault("house 0 1;", 6);
        fault("house 10 1;", 6);
        fault("house 9 100;", 8);
        fault("child 17 0;", 6);
        fault("child 16 100;", 9);
        fault("cow 1000;", 4);
        fault("ahead 0;", 6);
        fault("ahead 5;", 6);
        fault("worth 1 1;worth 1 1;", 10);
        fault("house 1 1;house 1 1;", 10);
        fault("child 1 1;cow 1;child 1 1;", 16);
        fault("cow 1;cow 1;", 6);
        fault("ahead 1;ahead 1;", 8);
        fault("worth 1 1;house 1 1;child 1 1;cow 1;ahead 1;", 44);
    }

    private static void faultAtALinesWord() {
        fault("left left a 1;", 5);
        fault("left a left b 1;", 7);
        fault("left a 1 right b 2;", 9);
        fault(PAIR + "think cow 1;", 25);
        fault(PAIR + "think a cow 1;", 27);
        fault(PAIR + "think a b cow 1;", 29);
        fault(PAIR + "think a b 1 cow 1;", 31);
        fault(PAIR + "think a b 1 1 cow 1;", 33);
        fault(PAIR + "think a b 1 1 1 cow 1;", 35);
        fault(PAIR + "fit cow 1;", 23);
        fault(PAIR + "fit a cow 1;", 25);
        fault(PAIR + "fit a b cow 1;", 27);
        fault(PAIR + "fit a b 1 cow 1;", 29);
        for (String word : new String[] {"worth", "house", "child"}) {
            fault(PAIR + word + " cow 1;", 25);
            fault(PAIR + word + " 1 cow 1;", 27);
            fault(PAIR + word + " 1 1 cow 1;", 29);
        }
        fault(PAIR + "cow ahead 1;", 23);
        fault(PAIR + "cow 1 ahead 1;", 25);
        fault(PAIR + "ahead cow 1;", 25);
        fault(PAIR + "ahead 1 cow 1;", 27);
    }

    private static void village() {
        MayGreen g = new MayGreen();
        due.is("village of no text", g.village(), NONE);
        due.is("refused", g.status(2), 1);
        Village.write(g, "left a 1;right b 2;right c 3;");
        due.is("village", g.village(), 3);
        due.is("the text is empty", g.count(5), 0);
        due.is("a", g.person(0, 0), 1);
        due.is("b", g.person(10, 0), 2);
        due.is("c", g.person(11, 0), 3);
        Village.write(g, "left a 1;right b 100;");
        due.is("village with a fault", g.village(), NONE);
        due.is("refused then", g.status(2), 2);
        due.is("the text stays", g.count(5), 21);
        due.is("the fault stays", g.fault(), 17);
        due.is("the village stays", g.person(11, 0), 3);
        due.is("asking the fault changes nothing", g.count(1), 2);
        due.is("none refused for others", g.status(0) + g.status(1), 0);
    }

    private static void defaults() {
        MayGreen g = Village.of(PAIR);
        due.is("C", g.think(0, 10, 0), 8);
        due.is("G", g.think(0, 10, 1), 12);
        due.is("P", g.think(10, 0, 2), 4);
        due.is("F", g.two(0, 10, 3), 8);
        due.is("T", g.count(4), 3);
        due.is("W 10, V 0", g.liking(0, 10), 5000);
        due.is("TRUE worth", g.parents(NONE), 160);
        due.is("no house", g.life(100, 0), 16000);
        g.may(5);
        due.is("no children", g.two(0, 10, 2), 0);
        due.is("no cow", g.price(0, 3), 0);
        MayGreen later = Village.of("worth 9 1;" + "cow 7;house 1 2;ahead 2;child 3 3;fit a b 1;think a b 1 2 1;"
            .replace("fit", "left a 1;right b 1;fit"));
        due.is("lines in any order: T", later.count(4), 2);
        due.is("lines in any order: F", later.two(10, 0, 3), 1);
        due.is("lines in any order: G", later.think(0, 10, 1), 2);
    }

    private static void villageStartsAnew() {
        MayGreen g = Village.of("left a 0;right b 0;fit a b 16;child 16 1;think a b 1 2 1;house 1 1;cow 5;ahead 1;");
        g.way(3);
        g.seed(77);
        g.may(3);
        g.image(1);
        g.way(9);
        Village.write(g, "left a 0;right b 0;fit a b 7;child 7 1;");
        due.is("next village", g.village(), 2);
        due.is("YEAR 0", g.count(2), 0);
        due.is("WAY 0", g.count(3), 0);
        due.is("T 3", g.count(4), 3);
        due.is("nobody PAIRED", g.pairs(0, 0), 0);
        due.is("no years", g.person(0, 2), 0);
        due.is("nothing KNOWN", g.two(0, 10, 0) + g.two(0, 10, 1), 0);
        due.is("no CHILDREN", g.two(0, 10, 2), 0);
        due.is("nothing EARNED", g.earned(0) + g.earned(10), 0);
        due.is("thoughts anew", g.think(0, 10, 0), 8);
        due.is("no images", g.on(1), false);
        due.is("REFUSED goes on", g.status(0), 2);
        g.may(2);
        due.is("lots from 0 on: 0 and 6, then 7 and 12", g.earned(0), 11);
        due.is("one child", g.two(0, 10, 2), 1);
        MayGreen log = Village.of("left a 0;right b 0;right c 0;think a b 8 16 0;fit a b 0;ahead 1;");
        log.may(2);
        due.is("a row", log.log(NONE, 0), 1);
        Village.write(log, PAIR);
        log.village();
        due.is("no LOG", log.log(NONE, 0), 0);
        due.is("no LOG row", log.log(0, 0), NONE);
    }

    private static void count() {
        MayGreen g = new MayGreen();
        g.way(2);
        due.is("WAY without a village", g.count(3), 0);
        g.feed(0, 0, 0, 0, 0);
        due.is("bytes", g.count(5), 20);
        Village.write(g, "left a 1;left b 1;left c 1;right d 1;ahead 4;");
        g.village();
        g.way(2);
        g.may(3);
        g.feed(0, 0, 0, 0, 0);
        due.is("LEFT ones", g.count(0), 3);
        due.is("RIGHT ones", g.count(1), 1);
        due.is("the YEAR", g.count(2), 3);
        due.is("the WAY", g.count(3), 2);
        due.is("T", g.count(4), 4);
        due.is("bytes behind the village", g.count(5), 20);
        due.is("others", g.count(6), NONE);
        due.is("others below", g.count(-1), NONE);
        due.is("others at the end", g.count(Integer.MIN_VALUE), NONE);
    }
}
