/** What an object shows of its state, but for what was REFUSED, in fewer calls than an object is used for. */
final class Seen {
    private static final int[] PEOPLE = {0, 1, 2, 3, 10, 11, 12, 13};
    private static final int FIRST_ROWS = 10;
    private static final int LAST_ROWS = 5;

    private Seen() {
    }

    /** By calls that change nothing: some 220, and 5 for each of the first and the last rows of the LOG. */
    static String of(MayGreen g) {
        StringBuilder seen = new StringBuilder();
        for (int what = 0; what <= 5; what++) {
            tell(seen, g.count(what));
        }
        tell(seen, g.fault());
        for (int p : PEOPLE) {
            for (int what = 0; what <= 2; what++) {
                tell(seen, g.person(p, what));
            }
            tell(seen, g.earned(p));
        }
        for (int p = 0; p <= 3; p++) {
            for (int q = 10; q <= 13; q++) {
                for (int what = 0; what <= 4; what++) {
                    tell(seen, g.two(p, q, what));
                }
                for (int what = 0; what <= 2; what++) {
                    tell(seen, g.think(p, q, what) + 100 * g.think(q, p, what));
                }
            }
        }
        int rows = g.log(MayGreen.NONE, 0);
        tell(seen, rows);
        for (int k = 0; k < rows; k++) {
            for (int what = 0; what <= 4 && (k < FIRST_ROWS || k >= rows - LAST_ROWS); what++) {
                tell(seen, g.log(k, what));
            }
        }
        tell(seen, g.life(100, 0));
        tell(seen, g.act(0, 1, MayGreen.NONE));
        return seen.toString();
    }

    /** What is seen only by going on: the lots, the images, the text. The object is of no use behind it. */
    static String goingOn(MayGreen g) {
        StringBuilder seen = new StringBuilder();
        tell(seen, g.may(2));
        lives(seen, g);
        for (int k = 0; k <= 2; k++) {
            tell(seen, g.on(k) ? 1 : 0);
            tell(seen, g.may(1));
            lives(seen, g);
        }
        tell(seen, g.village());
        for (int p : PEOPLE) {
            tell(seen, g.person(p, 0));
        }
        return seen.toString();
    }

    private static void lives(StringBuilder seen, MayGreen g) {
        for (int p = 0; p <= 3; p++) {
            int with = g.person(p, 1);
            tell(seen, with);
            tell(seen, g.earned(p));
            tell(seen, g.two(p, with, 2));
            tell(seen, g.two(p, with, 4));
        }
        tell(seen, g.two(0, 10, 0));
        tell(seen, g.log(MayGreen.NONE, 0));
    }

    private static void tell(StringBuilder seen, int answer) {
        seen.append(answer).append(' ');
    }
}
