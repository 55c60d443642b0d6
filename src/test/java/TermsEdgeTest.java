/** The edges that "Terms" and promises 1 to 5 and 34 name, each by a test of its own. */
final class TermsEdgeTest {
    private static final int NONE = MayGreen.NONE;
    private static final int VOID = MayGreen.VOID;
    private static final int LEAST = Integer.MIN_VALUE;
    private static final int MOST = Integer.MAX_VALUE;
    private static final int BLANKS = 0x20202020;
    private static final String PAIR = "left a 1;right b 2;";
    private static final String EIGHT = "left a 1;right p 11;left b 2;right q 12;left c 3;right r 13;left d 4;right s 14;";
    private static final String LINES = PAIR + "think a b 8 12 4;fit a b 8;worth 10 0;house 1 0;child 0 0;cow 0;ahead 3;";
    private static final String FAULTY = "left a 5;right b 100;";
    private static final Due due = new Due("TermsEdgeTest");

    public static void main(String[] args) {
        tokens();
        lines();
        numbers();
        names();
        toldTwice();
        newObject();
        feed();
        end();
        village();
        count();
        due.close();
    }

    private static void fault(String text, int place) {
        due.is("fault of '" + text.replace('\n', '|') + "'", Village.faultOf(text), place);
    }

    private static boolean isBlank(int sign) {
        return sign == 32 || sign == 10;
    }

    private static boolean isLetter(int sign) {
        return sign >= 97 && sign <= 122;
    }

    private static boolean isDigit(int sign) {
        return sign >= 48 && sign <= 57;
    }

    // Tokens.

    private static void tokens() {
        for (int sign = 0; sign <= 255; sign++) {
            signBehindALine(sign);
            signBehindAWord(sign);
            signBehindAName(sign);
            signBehindANumber(sign);
        }
        wordsAndNumbersAreAsLongAsCanBe();
        anyBlanksBetweenTokens();
        signOfNoTokenAheadOfATokenThatCannotStand();
        signOfNoTokenBehindATokenThatCannotStand();
    }

    private static void signBehindALine(int sign) {
        fault(PAIR + (char) sign, isBlank(sign) ? NONE : 19);
    }

    private static void signBehindAWord(int sign) {
        fault("left" + (char) sign + "a 1;right b 2;", isBlank(sign) ? NONE : isLetter(sign) ? 0 : 4);
    }

    private static void signBehindAName(int sign) {
        // A digit is ALONE then, and the 1 behind it can't stand.
        fault("left a" + (char) sign + " 1;right b 2;", isBlank(sign) || isLetter(sign) ? NONE
            : isDigit(sign) ? 8 : 6);
    }

    private static void signBehindANumber(int sign) {
        // A ; ends the line, and the next one can't stand.
        fault("left a 1" + (char) sign + ";right b 2;", isBlank(sign) || isDigit(sign) ? NONE : sign == ';' ? 9 : 8);
    }

    private static void wordsAndNumbersAreAsLongAsCanBe() {
        fault("left a1;right b2;", NONE);
        fault("lefta 1;", 0);
        fault("left a 1right b 2;", 8);
        fault("left a 9 9;right b 2;", 9);
        fault("left a 99;right b 2;", NONE);
        fault("left a 999;right b 2;", 7);
        fault("left a b 1;right b 2;", 7);
        fault("left ab 1;right b 2;", NONE);
    }

    private static void anyBlanksBetweenTokens() {
        fault(" \n \nleft\n\na \n1\n ;\n\nright  b  2  ;  \n", NONE);
        fault("left a 1;right b 2;", NONE);
        fault(PAIR + " ".repeat(481), NONE);
        fault(" ".repeat(481) + PAIR, NONE);
        fault(" ".repeat(500), 500);
        fault("\n", 1);
    }

    private static void signOfNoTokenAheadOfATokenThatCannotStand() {
        fault("left A left 1;", 5);
        fault("left a . . 100;", 7);
        fault(PAIR + "!stay", 19);
        fault("\u0000stay", 0);
        fault(" \tstay", 1);
    }

    private static void signOfNoTokenBehindATokenThatCannotStand() {
        fault("left left A;", 5);
        fault("left a 100.;", 7);
        fault(PAIR + "stay!", 19);
        fault("stay\u0000", 0);
        fault(PAIR + "cow 1;cow!", 25);
    }

    // Lines.

    private static void lines() {
        textEndsTooEarly();
        textHasNotOneOfEachSide();
        fourOfEachSideAtMost();
        peopleAreNumberedAsTheyCome();
        linesInAnyOrder();
        eachTokenOfALineInItsPlace();
    }

    private static void textEndsTooEarly() {
        MayGreen g = new MayGreen();
        Village.write(g, LINES);
        due.is("the whole text", g.fault(), NONE);
        for (int n = LINES.length() - 1; n >= 0; n--) {
            g.end(n);
            due.is("fault of " + n + " bytes", g.fault(), faultOfPrefix(n));
        }
    }

    /** The length, but for a line's word that isn't whole: that can't stand there; and for whole lines. */
    private static int faultOfPrefix(int n) {
        String text = LINES.substring(0, n);
        int line = text.lastIndexOf(';') + 1;
        String word = LINES.substring(line).split(" ")[0];
        if (n == line) {
            return n >= PAIR.length() ? NONE : n;
        }
        return n < line + word.length() ? line : n;
    }

    private static void textHasNotOneOfEachSide() {
        fault("", 0);
        fault("left a 1;", 9);
        fault("right a 1;", 10);
        fault("left a 1;left b 1;cow 1; \n", 26);
        fault("cow 1;ahead 2;", 14);
        fault("left a 1;right b 1;", NONE);
        fault("right b 1;left a 1;", NONE);
    }

    private static void fourOfEachSideAtMost() {
        fault(EIGHT, NONE);
        fault(EIGHT + "left e 1;", EIGHT.length());
        fault(EIGHT + "right t 1;", EIGHT.length());
        fault(EIGHT + "left !", EIGHT.length());
        fault("left a 1;left b 1;left c 1;left d 1;right p 1;", NONE);
        fault("left a 1;left b 1;left c 1;left d 1;left", 36);
        fault("right a 1;right b 1;right c 1;right d 1;left p 1;", NONE);
        fault("right a 1;right b 1;right c 1;right d 1;right", 40);
        due.is("8 PEOPLE", Village.of(EIGHT).pairs(0, 0), 0);
    }

    private static void peopleAreNumberedAsTheyCome() {
        MayGreen g = Village.of(EIGHT);
        for (int k = 0; k < 4; k++) {
            due.is("LEFT " + k, g.person(k, 0), 1 + k);
            due.is("RIGHT " + (10 + k), g.person(10 + k, 0), 11 + k);
        }
        for (int nobody : new int[] {LEAST, -1, 4, 5, 9, 14, 15, 100, MOST}) {
            due.is("nobody " + nobody, g.person(nobody, 0), VOID);
        }
        MayGreen few = Village.of("right p 3;right q 4;left a 5;");
        due.is("LEFT 0 behind two RIGHT ones", few.person(0, 0), 5);
        due.is("no LEFT 1", few.person(1, 0), VOID);
        due.is("RIGHT 11", few.person(11, 0), 4);
        due.is("no RIGHT 12", few.person(12, 0), VOID);
    }

    private static void linesInAnyOrder() {
        fault("ahead 4;cow 9;child 1 2;house 3 4;worth 5 6;right b 0;left a 0;fit a b 1;think b a 1 2 2;think a b 1 1 1;", NONE);
        fault("fit a b 1;left a 0;right b 0;", 4);
    }

    private static void eachTokenOfALineInItsPlace() {
        for (String line : ("left c 1 ;right d 1 ;think a b 8 12 4 ;fit a b 8 ;worth 10 0 ;house 1 0 ;child 0 0 ;cow 0 ;"
            + "ahead 3 ;").split("(?<=;)")) {
            fault(PAIR + line, NONE);
            fault(PAIR + line + ";", PAIR.length() + line.length());
            String[] tokens = line.split(" ");
            int at = PAIR.length();
            for (int k = 0; k < tokens.length; k++) {
                String ahead = (PAIR + line).substring(0, at);
                for (String wrong : "cow 1 ; . stay".split(" ")) {
                    if (kindOf(wrong) != kindOf(tokens[k]) || k == 0 && wrong.equals("stay")) {
                        fault(ahead + wrong + " 1 ;", at);
                    }
                }
                at += tokens[k].length() + 1;
            }
        }
    }

    private static int kindOf(String token) {
        int sign = token.charAt(0);
        return isLetter(sign) ? 'a' : isDigit(sign) ? '0' : sign;
    }

    // Numbers.

    private static void numbers() {
        number("left a ", ";right b 0;", 0, 99);
        number("right b ", ";left a 0;", 0, 99);
        number(PAIR + "think a b ", " 0 0;", 0, 16);
        number(PAIR + "think b a ", " 0 0;", 0, 16);
        number(PAIR + "think a b 0 ", " 0;", 0, 16);
        number(PAIR + "think a b 0 16 ", ";", 0, 16);
        number(PAIR + "think b a 16 9 ", ";", 0, 9);
        number(PAIR + "think a b 16 0 ", ";", 0, 0);
        number(PAIR + "fit a b ", ";", 0, 16);
        number(PAIR + "worth ", " 99;", 0, 99);
        number(PAIR + "worth 0 ", ";", 0, 99);
        number(PAIR + "house ", " 0;", 1, 9);
        number(PAIR + "house 9 ", ";", 0, 99);
        number(PAIR + "child ", " 0;", 0, 16);
        number(PAIR + "child 0 ", ";", 0, 99);
        number(PAIR + "cow ", ";", 0, 999);
        number(PAIR + "ahead ", ";", 1, 4);
        numbersAreKept();
    }

    private static void number(String ahead, String behind, int least, int most) {
        fault(ahead + least + behind, NONE);
        fault(ahead + most + behind, NONE);
        fault(ahead + "00000000000000000000" + most + behind, NONE);
        if (least > 0) {
            fault(ahead + (least - 1) + behind, ahead.length());
        }
        fault(ahead + (most + 1) + behind, ahead.length());
        fault(ahead + "0000" + (most + 1) + behind, ahead.length());
        // What a number of 32 or 64 bits, or of 1000's, would take for `least` or `most`.
        for (String wide : new String[] {"2147483648", "4294967296", "4294967297", "4294967305", "18446744073709551616",
            "18446744073709551617", "1000001", "10000001", "9".repeat(300), "1" + "0".repeat(300)}) {
            fault(ahead + wide + behind, ahead.length());
        }
    }

    private static void numbersAreKept() {
        MayGreen least = Village.of("left a 0;right b 0;think a b 0 0 0;fit a b 0;worth 0 0;house 1 0;child 0 0;cow 0;ahead 1;");
        MayGreen most = Village.of("left a 99;right b 99;think a b 16 16 16;fit a b 16;worth 99 98;house 9 97;child 16 99;cow 999;ahead 4;");
        due.is("ALONE 0", least.person(0, 0), 0);
        due.is("ALONE 99", most.person(10, 0), 99);
        for (int what = 0; what <= 2; what++) {
            due.is("thought 0", least.think(0, 10, what), 0);
            due.is("thought 16", most.think(0, 10, what), 16);
        }
        due.is("F 0", least.two(0, 10, 3), 0);
        due.is("F 16", most.two(0, 10, 3), 16);
        due.is("W 0, V 0", least.liking(10, 0), 0);
        due.is("W 99, V 98", most.liking(10, 0), 98500);
        due.is("T 1", least.count(4), 1);
        due.is("T 4", most.count(4), 4);
        least.join(0, 10);
        most.join(0, 10);
        due.is("COW 0", least.act(0, 1, NONE), 0);
        due.is("COW 999", most.act(0, 1, NONE), 99000 - 999000);
        due.is("K 0: no CHILD", least.may(9) * 100 + least.two(0, 10, 2), 900);
        due.is("K 16: a CHILD each year", most.may(9) * 100 + most.two(0, 10, 2), 909);
        due.is("X 99: W, nine CHILDREN", most.liking(0, 10), 99000 + 9 * 99000);
        due.is("9 years, no house, CHILDREN 0 .. 8 ahead", most.earned(0), 9 * 99 + 36 * 99);
        most.may(1);
        due.is("H 9, B 97 in the tenth", most.earned(0), 9 * 99 + 36 * 99 + 99 + 9 * 99 + 97);
    }

    // Names.

    private static void names() {
        nameOfEightLettersAndOfNine();
        namesOfALinesWords();
        namesAreAllUnlike();
        namesOfTheSameLettersAreUnlike();
        nameThatIsNotTold();
        nameThatIsNotOneOfSuch();
    }

    private static void nameOfEightLettersAndOfNine() {
        fault("left abcdefgh 1;right b 2;", NONE);
        fault("left abcdefghi 1;right b 2;", 5);
        fault("left b 1;right zzzzzzzz 2;", NONE);
        fault("left b 1;right zzzzzzzzz 2;", 15);
        fault("left b 1;right " + "z".repeat(400) + " 2;", 15);
        fault("left abcdefgh 1;right abcdefgz 2;", NONE);
        fault("left abcdefgh 1;right zbcdefgh 2;", NONE);
        fault("left abcdefgh 1;right abcdefgh 2;", 22);
        fault("left abcdefgh 1;right b 2;think abcdefgh b 1 1 1;fit abcdefgh b 1;", NONE);
        fault("left abcdefgh 1;right b 2;think b abcdefghi 1 1 1;", 34);
        fault("left abcdefgh 1;right b 2;fit abcdefghi b 1;", 30);
    }

    private static void namesOfALinesWords() {
        for (String word : "left right think fit worth house child cow ahead".split(" ")) {
            fault("left " + word + " 1;right b 2;", 5);
            fault("left a 1;right " + word + " 2;", 15);
            fault(PAIR + "think " + word + " b 1 1 1;", 25);
            fault(PAIR + "think b " + word + " 1 1 1;", 27);
            fault(PAIR + "fit " + word + " b 1;", 23);
            fault(PAIR + "fit a " + word + " 1;", 25);
            fault("left " + word + "s 1;right " + word.substring(1) + " 2;", NONE);
        }
    }

    private static void namesAreAllUnlike() {
        fault("left a 1;left a 1;right b 1;", 14);
        fault("left a 1;right b 1;right b 1;", 25);
        fault("left a 1;right a 1;", 15);
        fault("right a 1;left a 1;", 15);
        fault("left a 1;left aa 1;right aaa 1;right b 1;", NONE);
        fault("left a 1;left b 1;left c 1;right d 1;right e 1;right c 1;", 53);
    }

    private static void namesOfTheSameLettersAreUnlike() {
        fault("left ab 1;right ba 1;", NONE);
        fault("left aab 1;left aba 1;right baa 1;think aba baa 1 1 1;fit aab baa 1;", NONE);
        fault("left abcdefgh 1;right abcdefhg 1;", NONE);
        fault("left a 1;right b 1;think ab a 1 1 1;", 25);
        MayGreen g = Village.of("left ab 1;left ba 2;right cd 3;right dc 4;fit ba dc 1;fit ab dc 2;");
        due.is("ba and dc", g.two(1, 11, 3), 1);
        due.is("ab and dc", g.two(0, 11, 3), 2);
    }

    private static void nameThatIsNotTold() {
        fault(PAIR + "think c b 1 1 1;", 25);
        fault(PAIR + "think a c 1 1 1;", 27);
        fault(PAIR + "think aa b 1 1 1;", 25);
        fault(PAIR + "think 1 b 1 1 1;", 25);
        fault(PAIR + "fit c b 1;", 23);
        fault(PAIR + "fit a c 1;", 25);
        fault(PAIR + "fit a bb 1;", 25);
        fault(PAIR + "fit a 1;", 25);
    }

    private static void nameThatIsNotOneOfSuch() {
        fault(PAIR + "think a a 1 1 1;", 27);
        fault(PAIR + "think b b 1 1 1;", 27);
        fault(PAIR + "left c 1;think a c 1 1 1;", 36);
        fault(PAIR + "right c 1;think b c 1 1 1;", 37);
        fault(PAIR + "think b a 1 1 1;think a b 1 1 1;", NONE);
        fault(PAIR + "fit b a 1;", 23);
        fault(PAIR + "fit b b 1;", 23);
        fault(PAIR + "fit a a 1;", 25);
        fault(PAIR + "left c 1;fit a c 1;", 34);
        fault(PAIR + "left c 1;fit c b 1;", NONE);
    }

    // Told twice.

    private static void toldTwice() {
        linesToldOnce("worth 1 2;");
        linesToldOnce("house 1 2;");
        linesToldOnce("child 1 2;");
        linesToldOnce("cow 1;");
        linesToldOnce("ahead 1;");
        thoughtToldTwice();
        fitToldTwice();
    }

    private static void linesToldOnce(String line) {
        fault(PAIR + line, NONE);
        fault(PAIR + line + line, PAIR.length() + line.length());
        fault(line + PAIR + line, PAIR.length() + line.length());
        fault(PAIR + line + line.split(" ")[0], PAIR.length() + line.length());
        // Its number can't be, but its word is ahead.
        fault(PAIR + line + line.split(" ")[0] + " 9999;", PAIR.length() + line.length());
        String others = "worth 1 2;house 1 2;child 1 2;cow 1;ahead 1;".replace(line, "");
        fault(PAIR + others + line, NONE);
    }

    private static void thoughtToldTwice() {
        String four = PAIR + "left c 1;right d 1;";
        String all = "think a b 1 1 1;think a d 1 1 1;think c b 1 1 1;think c d 1 1 1;"
            + "think b a 1 1 1;think b c 1 1 1;think d a 1 1 1;think d c 1 1 1;";
        fault(four + all, NONE);
        for (String line : all.split(";")) {
            fault(four + all + line + ";", four.length() + all.length() + 8);
            fault(four + line + ";" + line.substring(0, 9), four.length() + line.length() + 9);
        }
    }

    private static void fitToldTwice() {
        String four = PAIR + "left c 1;right d 1;";
        String all = "fit a b 1;fit a d 1;fit c b 1;fit c d 1;";
        fault(four + all, NONE);
        for (String line : all.split(";")) {
            fault(four + all + line + ";", four.length() + all.length() + 6);
        }
        fault(four + "think a b 1 1 1;" + all, NONE);
        for (String last : new String[] {"fit d s 1;", "fit a s 1;", "fit d p 1;"}) {
            fault(EIGHT + last + "fit d r 1;" + last, EIGHT.length() + 26);
        }
        for (String last : new String[] {"think d s 1 1 1;", "think s d 1 1 1;", "think a s 1 1 1;", "think p d 1 1 1;"}) {
            fault(EIGHT + last + "think s c 1 1 1;" + last, EIGHT.length() + 40);
        }
    }

    // Promise 1.

    private static void newObject() {
        Refusal anew = new Refusal(due, MayGreen::new);
        for (int way = 0; way <= 3; way++) {
            int told = way;
            anew.taken("new: way " + way, g -> Refusal.of(g.way(told)), 1);
        }
        anew.taken("new: seed", g -> Refusal.of(g.seed(7)), 1);
        anew.taken("new: end(0)", g -> Refusal.of(g.end(0)), 1);
        anew.refused("new: end(1)", g -> Refusal.of(g.end(1)), 0, 2);
        anew.refused("new: village", MayGreen::village, NONE, 2);
        anew.refused("new: may", g -> g.may(1), NONE, 2);
        anew.refused("new: may(0)", g -> g.may(0), NONE, 2);
        anew.refused("new: may(51)", g -> g.may(51), NONE, 2);
        anew.refused("new: join", g -> Refusal.of(g.join(0, 10)), 0, 0);
        anew.refused("new: part", g -> Refusal.of(g.part(0)), 0, 0);
        for (int k = 0; k <= 2; k++) {
            int image = k;
            anew.refused("new: image " + k, g -> Refusal.of(g.image(image)), 0, 2);
            anew.refused("new: on " + k, g -> Refusal.of(g.on(image)), 0, 0);
        }
        anew.refused("new: on 3", g -> Refusal.of(g.on(3)), 0, 0);
        anew.refused("new: way 4", g -> Refusal.of(g.way(4)), 0, 0);
        anew.refused("new: seed -1", g -> Refusal.of(g.seed(-1)), 0, 2);
        villageForgetsWhatWasAheadOfIt();
    }

    private static void villageForgetsWhatWasAheadOfIt() {
        MayGreen g = new MayGreen();
        g.way(3);
        g.seed(1);
        Village.write(g, "left a 0;right b 0;fit a b 1;");
        g.village();
        due.is("WAY 0", g.count(3), 0);
        g.may(1);
        due.is("lots from 0 on: 0 is below 1", g.two(0, 10, 0), 1);
    }

    // Promise 2.

    private static MayGreen fed(int bytes) {
        MayGreen g = new MayGreen();
        for (int k = 0; k < bytes; k += 20) {
            g.feed(BLANKS, BLANKS, BLANKS, BLANKS, BLANKS);
        }
        g.end(bytes);
        return g;
    }

    private static void feed() {
        new Refusal(due, () -> fed(0)).taken("feed behind 0", g -> g.feed(0, 0, 0, 0, 0), 20);
        new Refusal(due, () -> fed(1)).taken("feed behind 1", g -> g.feed(0, 0, 0, 0, 0), 21);
        new Refusal(due, () -> fed(479)).taken("feed to 499", g -> g.feed(0, 0, 0, 0, 0), 499);
        new Refusal(due, () -> fed(480)).taken("feed to 500", g -> g.feed(0, 0, 0, 0, 0), 500);
        for (int bytes : new int[] {481, 499, 500}) {
            Refusal full = new Refusal(due, () -> fed(bytes));
            full.refused("feed behind " + bytes, g -> g.feed(1, 2, 3, 4, 5), NONE, 1);
            full.refused("feed blanks behind " + bytes, g -> g.feed(BLANKS, BLANKS, BLANKS, BLANKS, BLANKS), NONE, 1);
        }
        refusedFeedLeavesTheText();
        textOf500BytesIsAVillage();
        highestByteFirst();
        bytesComeBehindThoseThatAreLeft();
    }

    private static void refusedFeedLeavesTheText() {
        MayGreen g = new MayGreen();
        Village.write(g, " ".repeat(481) + PAIR);
        due.is("full", g.feed(0, 0, 0, 0, 0), NONE);
        due.is("bytes", g.count(5), 500);
        due.is("the text is as it was", g.village(), 2);
        due.is("room anew", g.feed(0, 0, 0, 0, 0), 20);
    }

    private static void textOf500BytesIsAVillage() {
        MayGreen g = new MayGreen();
        Village.write(g, "left a 3;" + " ".repeat(481) + "right b 4;");
        due.is("500 bytes", g.count(5), 500);
        due.is("no FAULT", g.fault(), NONE);
        g.end(499);
        due.is("the last byte counts", g.fault(), 499);
        g.end(480);
        due.is("fed again", g.feed(BLANKS, 'r' << 24 | 'i' << 16 | 'g' << 8 | 'h', 't' << 24 | ' ' << 16 | 'b' << 8 | ' ',
            '4' << 24 | ';' << 16 | ' ' << 8 | ' ', BLANKS), 500);
        due.is("no FAULT again", g.fault(), NONE);
        due.is("a village", g.village(), 2);
        due.is("b", g.person(10, 0), 4);
    }

    private static void highestByteFirst() {
        for (int number = 0; number < 5; number++) {
            for (int at = 0; at < 4; at++) {
                int[] w = {BLANKS, BLANKS, BLANKS, BLANKS, BLANKS};
                w[number] ^= 0xE0 << 8 * (3 - at);
                MayGreen g = new MayGreen();
                g.feed(w[0], w[1], w[2], w[3], w[4]);
                due.is("byte 192 of number " + number, g.fault(), 4 * number + at);
            }
        }
        MayGreen least = new MayGreen();
        least.feed(BLANKS, LEAST, -1, MOST, 0);
        due.is("128 0 0 0", least.fault(), 4);
        MayGreen text = new MayGreen();
        text.feed(0x6C656674, 0x20612031, 0x3B726967, 0x68742062, 0x20323B0A);
        due.is("left a 1;right b 2; and a line end", text.fault(), NONE);
    }

    private static void bytesComeBehindThoseThatAreLeft() {
        MayGreen g = new MayGreen();
        Village.write(g, "left a 1;rigid b 2;");
        due.is("rigid", g.fault(), 9);
        g.end(12);
        due.is("more behind 12", g.feed('h' << 24 | 't' << 16 | ' ' << 8 | 'b', ' ' << 24 | '2' << 16 | ';' << 8 | ' ', BLANKS,
            BLANKS, BLANKS), 32);
        due.is("right", g.fault(), NONE);
    }

    // Promise 3.

    private static void end() {
        Refusal some = new Refusal(due, () -> fed(33));
        for (int n : new int[] {0, 1, 32, 33}) {
            some.taken("end(" + n + ")", g -> Refusal.of(g.end(n)) * 1000 + g.count(5), 1000 + n);
        }
        for (int n : new int[] {LEAST, -1, 34, 500, 501, MOST}) {
            some.refused("end(" + n + ") of 33", g -> Refusal.of(g.end(n)), 0, 2);
        }
        Refusal full = new Refusal(due, () -> fed(500));
        full.taken("end(500)", g -> Refusal.of(g.end(500)), 1);
        full.taken("end(499)", g -> Refusal.of(g.end(499)), 1);
        full.refused("end(501)", g -> Refusal.of(g.end(501)), 0, 2);
        MayGreen g = new MayGreen();
        Village.write(g, PAIR + "left");
        due.is("a fifth word", g.fault(), 23);
        due.is("end(19)", g.end(19), true);
        due.is("the first 19 alone", g.fault(), NONE);
        due.is("what was cut is gone", g.end(20), false);
        due.is("end(0)", g.end(0), true);
        due.is("nothing is left", g.fault(), 0);
        due.is("not one byte", g.end(1), false);
    }

    // Promise 5.

    /** A village with all that can be kept: pairs, KNOWN, CHILDREN, EARNED, a LOG, images; and a text behind it. */
    static MayGreen lived(String text) {
        MayGreen g = Village.of("left a 0;left b 1;right p 0;right q 2;think a p 8 16 0;fit a p 0;fit b p 15;child 9 2;"
            + "cow 1;ahead 1;house 1 3;");
        g.way(2);
        g.seed(5);
        g.may(3);
        g.image(1);
        g.may(2);
        g.way(3);
        Village.write(g, text);
        return g;
    }

    private static void village() {
        MayGreen ready = lived("left x 7;right y 8;");
        due.is("a LOG", ready.log(NONE, 0) > 0, true);
        due.is("a CHILD", ready.two(1, 10, 2) + ready.two(0, 10, 2) + ready.two(0, 11, 2) + ready.two(1, 11, 2) > 0, true);
        due.is("EARNED", ready.earned(0) != 0 || ready.earned(1) != 0, true);
        due.is("a pair", ready.pairs(0, 0) > 0, true);
        for (String text : new String[] {"", FAULTY, "left a 1;", "right a 1;", PAIR + "!", "left a 1;right b", " "}) {
            new Refusal(due, () -> lived(text)).refused("village of '" + text + "'", MayGreen::village, NONE, 2);
        }
        new Refusal(due, () -> lived(PAIR)).taken("village", MayGreen::village, 2);
        new Refusal(due, () -> lived(EIGHT)).taken("village of 8", MayGreen::village, 8);
        refusedVillageLeavesTheText();
        theTextIsEmptyThen();
        allOfItTakesThePlace();
        yearsAndYesesAreNoMore();
        linesNotToldAreAsWithoutThem();
        whoIsNoMore();
    }

    private static void refusedVillageLeavesTheText() {
        MayGreen g = lived(FAULTY);
        due.is("refused", g.village(), NONE);
        due.is("as many bytes", g.count(5), FAULTY.length());
        due.is("the FAULT", g.fault(), 17);
        g.end(17);
        g.feed('9' << 24 | '9' << 16 | ';' << 8 | ' ', BLANKS, BLANKS, BLANKS, BLANKS);
        due.is("mended", g.village(), 2);
        due.is("what was there is there", g.person(0, 0), 5);
    }

    private static void theTextIsEmptyThen() {
        MayGreen g = Village.of(PAIR);
        due.is("no bytes", g.count(5), 0);
        due.is("FAULT 0", g.fault(), 0);
        due.is("not one", g.end(1), false);
        due.is("no VILLAGE of it", g.village(), NONE);
        due.is("the VILLAGE stays", g.person(10, 0), 2);
        due.is("behind nothing", g.feed(0, 0, 0, 0, 0), 20);
    }

    private static void allOfItTakesThePlace() {
        String next = "left x 0;left y 0;right z 0;";
        MayGreen g = lived(next);
        int before = g.status(0) + g.status(1) + g.status(2);
        due.is("3 PEOPLE", g.village(), 3);
        due.is("as of a new object", Seen.of(g).equals(Seen.of(Village.of(next))), true);
        due.is("lots and all", Seen.goingOn(g).equals(Seen.goingOn(Village.of(next))), true);
        MayGreen images = lived(next);
        images.image(0);
        images.image(2);
        images.village();
        for (int k = 0; k <= 2; k++) {
            due.is("no image " + k, images.on(k), false);
        }
        due.is("YEAR 0 still", images.count(2), 0);
        MayGreen counted = lived(next);
        counted.way(9);
        counted.village();
        due.is("what was REFUSED stays", counted.status(0) + counted.status(1) + counted.status(2), before + 1);
    }

    private static void yearsAndYesesAreNoMore() {
        MayGreen g = Village.of(EIGHT + "cow 999;worth 99 99;");
        g.may(3);
        due.is("YESES", g.pairs(2, 1), 4);
        Village.write(g, EIGHT);
        g.village();
        for (int k = 0; k < 4; k++) {
            g.join(k, 13 - k);
            due.is("no years of " + k, g.person(k, 2) + g.person(13 - k, 2), 0);
            due.is("no YESES of " + k, g.two(k, 13 - k, 4), 0);
        }
        due.is("no pair has any", g.pairs(1, 1), 0);
    }

    /** Each line is told in the village ahead, and in a text whose FAULT was asked, but not in this one. */
    private static void linesNotToldAreAsWithoutThem() {
        String told = "think a b 1 3 2;think b a 1 3 2;fit a b 3;worth 30 20;house 2 50;child 16 40;cow 7;ahead 1;";
        MayGreen g = Village.of(PAIR + told);
        Village.write(g, PAIR + told);
        due.is("no FAULT", g.fault(), NONE);
        Village.write(g, "left a 0;right b 0;");
        due.is("village", g.village(), 2);
        due.is("C, G, P", g.think(0, 10, 0) * 10000 + g.think(0, 10, 1) * 100 + g.think(0, 10, 2), 81204);
        due.is("C, G, P of b", g.think(10, 0, 0) * 10000 + g.think(10, 0, 1) * 100 + g.think(10, 0, 2), 81204);
        due.is("F", g.two(0, 10, 3), 8);
        due.is("W and V", g.liking(0, 10), 5000);
        due.is("W by the PARENTS", g.parents(NONE), 160);
        due.is("no house", g.life(100, 0), 16000);
        due.is("T", g.count(4), 3);
        g.join(0, 10);
        due.is("no COW", g.act(0, 1, NONE), 0);
        g.may(50);
        due.is("no CHILD", g.two(0, 10, 2), 0);
        MayGreen anew = Village.of("left a 0;right b 0;");
        anew.join(0, 10);
        anew.may(50);
        due.is("as without all that", Seen.of(g).equals(Seen.of(anew)), true);
    }

    private static void whoIsNoMore() {
        MayGreen g = Village.of(EIGHT);
        g.join(3, 13);
        Village.write(g, PAIR);
        g.village();
        for (int nobody : new int[] {1, 2, 3, 11, 12, 13}) {
            due.is("no more " + nobody, g.person(nobody, 0), VOID);
        }
        due.is("no pair", g.pairs(0, 0), 0);
        due.is("two alone", g.count(0) * 10 + g.count(1), 11);
    }

    // Promise 34.

    private static void count() {
        MayGreen none = new MayGreen();
        for (int what : new int[] {LEAST, -2, -1, 6, 7, MOST}) {
            due.is("others without a VILLAGE", none.count(what), NONE);
            due.is("others", Village.of(PAIR).count(what), NONE);
        }
        none.way(3);
        for (int what = 0; what <= 5; what++) {
            due.is("0 without a VILLAGE", none.count(what), 0);
        }
        Village.write(none, "left a 1;right b 100;");
        none.village();
        for (int what = 0; what <= 4; what++) {
            due.is("0 behind a refused one", none.count(what), 0);
        }
        MayGreen g = Village.of(EIGHT + "ahead 4;");
        due.is("4 LEFT ones", g.count(0), 4);
        due.is("4 RIGHT ones", g.count(1), 4);
        due.is("YEAR 0", g.count(2), 0);
        due.is("WAY 0", g.count(3), 0);
        due.is("T 4", g.count(4), 4);
        MayGreen least = Village.of(PAIR + "ahead 1;");
        due.is("1 LEFT one", least.count(0), 1);
        due.is("1 RIGHT one", least.count(1), 1);
        due.is("T 1", least.count(4), 1);
        due.is("T 3 without", Village.of(PAIR).count(4), 3);
    }
}
