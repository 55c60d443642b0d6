import java.util.ArrayList;
import java.util.List;
import java.util.Random;

/** Runs of chance calls, each answered by the class and by the Oracle alike. */
final class OracleTest {
    private static final String[] NAMES = {"a", "bo", "cyd", "dan", "eve", "flo", "gus", "hannahxx"};
    private static final int RUNS = 160;

    private final Random random;
    private final MayGreen green = new MayGreen();
    private final Oracle oracle = new Oracle();
    private final List<String> calls = new ArrayList<>();
    private boolean stands;
    private int ahead = 3;

    private OracleTest(long seed) {
        random = new Random(seed);
    }

    public static void main(String[] args) {
        int runs = args.length > 0 ? Integer.parseInt(args[0]) : RUNS;
        for (int run = 0; run < runs; run++) {
            OracleTest test = new OracleTest(run);
            try {
                test.live();
            } catch (IllegalStateException wrong) {
                System.out.println("run " + run + ": " + wrong.getMessage());
                System.out.println(String.join("\n", test.calls));
                System.exit(1);
            }
        }
        System.out.println(runs + " runs alike");
    }

    private void live() {
        if (random.nextInt(4) == 0) {
            someCalls(12);
        }
        while (calls.size() < 500) {
            newVillage();
            someCalls(60 + random.nextInt(200));
        }
    }

    private void same(String call, long got, long due) {
        calls.add(call + " = " + due);
        if (got != due) {
            throw new IllegalStateException(call + " answered " + got + ", the Oracle " + due);
        }
    }

    private void same(String call, boolean got, boolean due) {
        same(call, got ? 1 : 0, due ? 1 : 0);
    }

    private int below(int n) {
        return random.nextInt(n);
    }

    // A text.

    private void newVillage() {
        String text = text();
        if (below(3) == 0) {
            text = spoilt(text);
        }
        text = text.substring(0, Math.min(500, text.length()));
        end(0);
        StringBuilder padded = new StringBuilder(text);
        while (padded.length() % 20 != 0) {
            padded.append(' ');
        }
        for (int at = 0; at < padded.length(); at += 20) {
            int[] words = new int[5];
            for (int k = 0; k < 20; k++) {
                words[k / 4] = words[k / 4] << 8 | padded.charAt(at + k) & 255;
            }
            feed(words);
        }
        end(text.length());
        same("fault of " + text.replace('\n', '|'), green.fault(), oracle.fault());
        int people = oracle.village();
        same("village", green.village(), people);
        stands |= people != MayGreen.NONE;
    }

    private void feed(int[] w) {
        same("feed", green.feed(w[0], w[1], w[2], w[3], w[4]), oracle.feed(w));
    }

    private void end(int n) {
        same("end(" + n + ")", green.end(n), oracle.end(n));
    }

    private String text() {
        int lefts = 1 + below(4);
        int rights = 1 + below(4);
        int most = new int[] {1, 6, 20, 99}[below(4)];
        List<String> lines = new ArrayList<>();
        for (int k = 0; k < lefts; k++) {
            lines.add("left " + NAMES[k] + " " + below(most));
        }
        for (int k = 0; k < rights; k++) {
            lines.add("right " + NAMES[4 + k] + " " + below(most));
        }
        List<String> more = new ArrayList<>();
        for (int left = 0; left < lefts; left++) {
            for (int right = 4; right < 4 + rights; right++) {
                if (below(3) > 0) {
                    more.add("fit " + NAMES[left] + " " + NAMES[right] + " " + below(17));
                }
                if (below(2) == 0) {
                    more.add(thought(left, right));
                }
                if (below(2) == 0) {
                    more.add(thought(right, left));
                }
            }
        }
        java.util.Collections.shuffle(more, random);
        once(more, "worth " + below(100) + " " + below(2) * below(100));
        once(more, "house " + (1 + below(3) * below(4)) + " " + below(most));
        once(more, "child " + below(17) + " " + below(5));
        once(more, "cow " + below(new int[] {2, 10, 100, 1000}[below(4)]));
        ahead = new int[] {1, 1, 2, 2, 2, 3, 3, 4}[below(8)];
        if (ahead != 3) {
            once(more, "ahead " + ahead);
        }
        while (length(more) + length(lines) > 500) {
            more.remove(0);
        }
        lines.addAll(more);
        StringBuilder text = new StringBuilder();
        for (String line : lines) {
            text.append(line).append(";");
        }
        return text.toString();
    }

    private void once(List<String> lines, String line) {
        if (below(5) > 0) {
            lines.add(below(lines.size() + 1), line);
        }
    }

    private String thought(int one, int other) {
        int good = below(4) == 0 ? 16 : below(17);
        int poor = below(4) == 0 ? 0 : below(good + 1);
        int chance = below(5) == 0 ? 16 * below(2) : below(17);
        return "think " + NAMES[one] + " " + NAMES[other] + " " + chance + " " + good + " " + poor;
    }

    private static int length(List<String> lines) {
        return lines.stream().mapToInt(line -> line.length() + 1).sum();
    }

    private String spoilt(String text) {
        StringBuilder spoilt = new StringBuilder(text);
        for (int k = 1 + below(2); k > 0 && spoilt.length() > 0; k--) {
            int at = below(Math.min(text.length(), spoilt.length()));
            switch (below(6)) {
                case 0 -> spoilt.deleteCharAt(at);
                case 1 -> spoilt.insert(at, " \n;a0x.A9-\t\0\u00e9\u00ff".charAt(below(14)));
                case 2 -> spoilt.setLength(at);
                case 3 -> spoilt.setCharAt(at, "0123456789abcdefgh; \n".charAt(below(21)));
                case 4 -> spoilt.insert(below(2) * (spoilt.indexOf(";") + 1), text.substring(at, text.length()));
                default -> spoilt.insert(spoilt.lastIndexOf(";") + 1, text.substring(Math.min(at, text.indexOf(";") + 1), at));
            }
        }
        return spoilt.toString();
    }

    // Calls.

    private int someone() {
        if (below(30) == 0) {
            return new int[] {-1, 4, 5, 9, 14, 1000, -2147483648, 2147483647}[below(8)];
        }
        return below(4) + 10 * below(2);
    }

    private int facing(int p) {
        return below(20) == 0 ? someone() : below(4) + (p < 10 ? 10 : 0);
    }

    private int few(int from, int to) {
        return below(25) == 0 ? new int[] {-1, from - 1, to + 1, -2147483648, 2147483647}[below(5)]
            : from + below(to - from + 1);
    }

    private void someCalls(int n) {
        for (int k = 0; k < n && calls.size() < 505; k++) {
            if (below(3) == 0) {
                change();
            } else if (below(3) == 0) {
                reckon();
            } else {
                look();
            }
        }
    }

    private void change() {
        int p = someone();
        int q = facing(p);
        int k = few(0, 2);
        int way = few(0, 3);
        switch (below(10)) {
            case 0 -> same("way(" + way + ")", green.way(way), oracle.way(way));
            case 1 -> {
                int seed = below(4) == 0 ? below(3) + 999999 : below(1000000) - 10;
                same("seed(" + seed + ")", green.seed(seed), oracle.seed(seed));
            }
            case 2, 3 -> same("join(" + p + "," + q + ")", green.join(p, q), oracle.join(p, q));
            case 4 -> same("part(" + p + ")", green.part(p), oracle.part(p));
            case 5 -> same("image(" + k + ")", green.image(k), oracle.image(k));
            case 6 -> same("on(" + k + ")", green.on(k), oracle.on(k));
            default -> {
                int mays = ahead < 3 && below(3) == 0 ? few(1, 50) : few(1, ahead == 4 ? 2 : 6);
                if (ahead > 2 && mays > 9 && mays < 51) {
                    mays = 51;
                }
                same("may(" + mays + ")", green.may(mays), oracle.may(mays));
            }
        }
    }

    private void reckon() {
        int p = someone();
        int q = facing(p);
        int n = below(12) == 0 ? few(1, 4) : 1 + below(3);
        int what = few(0, 1);
        String with = "(" + p + "," + n + ",";
        switch (below(7)) {
            case 0 -> same("best" + with + what + ")", green.best(p, n, what), oracle.best(p, n, what));
            case 1 -> {
                int act = below(3) == 0 ? MayGreen.NONE : q;
                same("act" + with + act + ")", green.act(p, n, act), oracle.act(p, n, act));
            }
            case 2 -> same("silent" + with, green.silent(p, n), oracle.silent(p, n));
            case 3 -> {
                int m = few(1, 6);
                same("bar(" + p + "," + q + "," + m + "," + n + ")", green.bar(p, q, m, n), oracle.bar(p, q, m, n));
            }
            case 4 -> {
                int mays = n > 2 && below(20) > 0 ? 2 : n;
                same("price(" + p + "," + mays + ")", green.price(p, mays), oracle.price(p, mays));
            }
            default -> {
                int mays = few(2, 4);
                same("waits(" + p + "," + q + "," + mays + ")", green.waits(p, q, mays), oracle.waits(p, q, mays));
            }
        }
    }

    private void look() {
        int p = someone();
        int q = facing(p);
        int what = few(0, 5);
        String with = "(" + p + "," + q + ",";
        switch (below(18)) {
            case 0 -> same("person(" + p + "," + what + ")", green.person(p, what), oracle.person(p, what));
            case 1 -> same("earned(" + p + ")", green.earned(p), oracle.earned(p));
            case 2, 3 -> same("two" + with + what + ")", green.two(p, q, what), oracle.two(p, q, what));
            case 4 -> same("think" + with + what + ")", green.think(p, q, what), oracle.think(p, q, what));
            case 5 -> same("shown" + with + what + ")", green.shown(p, q, what % 2), oracle.shown(p, q, what % 2));
            case 6 -> same("liking" + with + ")", green.liking(p, q), oracle.liking(p, q));
            case 7 -> {
                int r = facing(p);
                same("sooner" + with + r + ")", green.sooner(p, q, r), oracle.sooner(p, q, r));
            }
            case 8, 9 -> same("green(" + what % 4 + "," + p + ")", green.green(what % 4, p), oracle.green(what % 4, p));
            case 10 -> {
                int k = below(3) == 0 ? MayGreen.NONE : below(2) * below(60);
                same("log(" + k + "," + what + ")", green.log(k, what), oracle.log(k, what));
            }
            case 11 -> {
                int k = below(6) - 2;
                same("blocks(" + k + ")", green.blocks(k), oracle.blocks(k));
            }
            case 12 -> {
                int who = below(3) == 0 ? MayGreen.NONE : p;
                same("parents(" + who + ")", green.parents(who), oracle.parents(who));
            }
            case 13 -> {
                int years = few(1, 100);
                int kind = few(0, 1);
                same("life(" + years + "," + kind + ")", green.life(years, kind), oracle.life(years, kind));
            }
            case 14 -> same("never(" + what + ")", green.never(what % 3), oracle.never(what % 3));
            case 15 -> {
                int m = below(3) == 0 ? few(0, 100) : below(4);
                same("pairs(" + m + "," + what + ")", green.pairs(m, what % 3), oracle.pairs(m, what % 3));
            }
            case 16 -> same("status(" + what + ")", green.status(what), oracle.status(what));
            default -> same("count(" + what + ")", green.count(what), oracle.count(what));
        }
    }
}
