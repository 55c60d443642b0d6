/** All that an object shows of its state, but for what was REFUSED. */
final class Seen {
    private static final int[] PEOPLE = {0, 1, 2, 3, 10, 11, 12, 13};

    private Seen() {
    }

    static String of(MayGreen g) {
        StringBuilder seen = new StringBuilder();
        for (int what = 0; what <= 5; what++) {
            seen.append(g.count(what)).append(' ');
        }
        seen.append(g.fault()).append(' ');
        for (int p : PEOPLE) {
            for (int what = 0; what <= 2; what++) {
                seen.append(g.person(p, what)).append(' ').append(g.green(what, p)).append(' ');
            }
            seen.append(g.earned(p)).append(' ').append(g.parents(p)).append(' ');
            for (int q : PEOPLE) {
                for (int what = 0; what <= 4; what++) {
                    seen.append(g.two(p, q, what)).append(' ').append(g.think(p, q, what)).append(' ');
                    seen.append(g.shown(p, q, what)).append(' ');
                }
                seen.append(g.liking(p, q)).append(' ').append(g.waits(p, q, 2)).append(' ');
            }
            seen.append(g.price(p, 1)).append(' ').append(g.best(p, 2, 0)).append('\n');
        }
        for (int k = -1; k < 40; k++) {
            for (int what = 0; what <= 4; what++) {
                seen.append(g.log(k, what)).append(' ');
            }
            seen.append(g.blocks(k)).append(' ').append(g.pairs(k, 1)).append('\n');
        }
        seen.append(g.life(5, 0)).append(' ').append(g.never(1));
        return seen.toString();
    }
}
