import java.util.Random;

/** Wild arguments in many states: no call throws, and what is refused changes nothing but the count of it. */
final class WildTest {
    private static final int[] EDGES = {-2147483648, -2147483647, -1000, -11, -2, -1, 0, 1, 2, 3, 4, 5, 9, 10, 11, 12, 13,
        14, 39, 40, 50, 51, 99, 100, 101, 256, 500, 501, 999, 1000, 1000000, 1000001, 2147483646, 2147483647};
    private static final String[] TEXTS = {
        "",
        "left a 99;right b 99;worth 99 99;house 1 99;child 16 99;cow 999;ahead 4;think a b 16 16 16;think b a 0 0 0;",
        "left a 0;left b 0;left c 0;left d 0;right p 0;right q 0;right r 0;right s 0;child 16 99;worth 0 99;",
        "left a 3;left b 4;right p 2;think a p 16 16 0;think b p 0 16 0;fit a p 0;house 2 5;child 8 3;cow 1;ahead 2;",
        "left a 0;right b 0;right c 0;think a b 8 16 0;fit a b 0;fit a c 7;ahead 1;",
    };
    /** Of the kinds of calls the first ones would change something. */
    private static final int CHANGING = 10;
    private static final int KINDS = 34;
    private static final Due due = new Due("WildTest");

    public static void main(String[] args) {
        for (int run = 0; run < 600; run++) {
            refusedChangesNothing(run);
        }
        due.close();
    }

    private static int wild(Random random) {
        return random.nextInt(12) == 0 ? random.nextInt() : EDGES[random.nextInt(EDGES.length)];
    }

    /** An object behind wild calls, the same ones for the same run. */
    private static MayGreen lived(int run) {
        Random random = new Random(run);
        MayGreen g = new MayGreen();
        for (int call = run % 7; call < 80; call++) {
            if (call % 40 == 7) {
                Village.write(g, TEXTS[random.nextInt(TEXTS.length)]);
                g.village();
            }
            any(g, random.nextInt(KINDS), random);
        }
        return g;
    }

    private static void refusedChangesNothing(int run) {
        MayGreen called = lived(run);
        MayGreen untouched = lived(run);
        int refused = called.status(0) + called.status(1) + called.status(2);
        int call = run % CHANGING;
        long answer = any(called, call, new Random(run + 1000));
        boolean isRefused = answer == 0 || answer == MayGreen.NONE;
        due.is("refused and counted by call " + call, called.status(0) + called.status(1) + called.status(2) - refused,
            isRefused ? 1 : 0);
        if (isRefused) {
            due.is("refused and nothing seen by call " + call, Seen.of(called).equals(Seen.of(untouched)), true);
            due.is("refused and nothing hidden by call " + call, Seen.goingOn(called).equals(Seen.goingOn(untouched)), true);
        }
    }

    private static long any(MayGreen g, int call, Random random) {
        int a = wild(random);
        int b = wild(random);
        int c = wild(random);
        int d = wild(random);
        return switch (call) {
            case 0 -> g.feed(a, b, c, d, wild(random));
            case 1 -> g.end(a) ? 1 : 0;
            case 2 -> g.village();
            case 3 -> g.way(a) ? 1 : 0;
            case 4 -> g.seed(a) ? 1 : 0;
            case 5 -> g.may(a % 7);
            case 6 -> g.join(a, b) ? 1 : 0;
            case 7 -> g.part(a) ? 1 : 0;
            case 8 -> g.image(a) ? 1 : 0;
            case 9 -> g.on(a) ? 1 : 0;
            case 10 -> g.fault();
            case 11 -> g.person(a, b);
            case 12 -> g.earned(a);
            case 13 -> g.two(a, b, c);
            case 14 -> g.think(a, b, c);
            case 15 -> g.shown(a, b, c);
            case 16 -> g.liking(a, b);
            case 17 -> g.sooner(a, b, c);
            case 18 -> g.best(a, b, c);
            case 19 -> g.act(a, b, c);
            case 20 -> g.silent(a, b);
            case 21 -> g.bar(a, b, c, d);
            case 22 -> g.price(a, b);
            case 23 -> g.waits(a, b, c);
            case 24 -> g.green(a, b);
            case 25 -> g.log(a, b);
            case 26 -> g.blocks(a);
            case 27 -> g.parents(a);
            case 28 -> g.life(a, b);
            case 29 -> g.never(a);
            case 30 -> g.pairs(a, b);
            case 31 -> g.status(a);
            case 32 -> g.count(a);
            default -> g.may(a);
        };
    }
}
