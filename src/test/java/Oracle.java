import java.math.BigInteger;
import java.util.ArrayList;
import java.util.Arrays;
import java.util.HashMap;
import java.util.List;
import java.util.Map;
import java.util.TreeMap;
import java.util.function.BiPredicate;

/**
 * The document told again, slowly and with the whole Java library, in another build than the class: people by their
 * numbers, maps in place of rows, every COW tried. Tests hold the class against it.
 */
final class Oracle {
    static final int NONE = -1;
    static final int VOID = Integer.MIN_VALUE;
    private static final List<String> WORDS =
        List.of("left", "right", "think", "fit", "worth", "house", "child", "cow", "ahead");

    private String text = "";
    private Told told;
    private Days days = new Days();
    private final Days[] images = new Days[3];
    private final int[] refused = new int[3];

    /** A village's text. */
    private static final class Told {
        final Map<Integer, Integer> alone = new TreeMap<>();
        final Map<String, Integer> names = new HashMap<>();
        final Map<String, int[]> thoughts = new HashMap<>();
        final Map<String, Integer> fits = new HashMap<>();
        final Map<String, int[]> once = new HashMap<>();
        int fault = NONE;

        int at(String word, int i) {
            return once.getOrDefault(word, switch (word) {
                case "worth" -> new int[] {10, 0};
                case "house" -> new int[] {1, 0};
                case "child" -> new int[] {0, 0};
                case "cow" -> new int[] {0};
                default -> new int[] {3};
            })[i];
        }

        int[] thought(int p, int q) {
            return thoughts.getOrDefault(p + " " + q, new int[] {8, 12, 4});
        }

        int fit(int p, int q) {
            return fits.getOrDefault(Math.min(p, q) + " " + Math.max(p, q), 8);
        }

        List<Integer> side(boolean left) {
            return alone.keySet().stream().filter(p -> left == (p < 10)).toList();
        }
    }

    /** What changes by living on. */
    private static final class Days {
        int year;
        int way;
        long x;
        Map<Integer, Integer> mate = new HashMap<>();
        Map<Integer, Integer> since = new HashMap<>();
        Map<Integer, Integer> yes = new HashMap<>();
        Map<Integer, Integer> purse = new HashMap<>();
        Map<String, int[]> known = new HashMap<>();
        List<int[]> log = new ArrayList<>();

        Days copy() {
            Days days = new Days();
            days.year = year;
            days.way = way;
            days.x = x;
            days.mate.putAll(mate);
            days.since.putAll(since);
            days.yes.putAll(yes);
            days.purse.putAll(purse);
            known.forEach((k, v) -> days.known.put(k, v.clone()));
            days.log.addAll(log);
            return days;
        }

        /** GOOD, POOR and CHILDREN. */
        int[] of(int p, int q) {
            return known.computeIfAbsent(Math.min(p, q) + " " + Math.max(p, q), k -> new int[3]);
        }

        int mateOf(int p) {
            return mate.getOrDefault(p, NONE);
        }

        void end(int p) {
            int q = mate.remove(p);
            mate.remove(q);
            for (int one : new int[] {p, q}) {
                since.remove(one);
                yes.remove(one);
            }
        }

        int lot(int n) {
            x = (x * 1103515245L + 12345L) % (1L << 31);
            return (int) (x / 256 % n);
        }
    }

    // The text.

    int feed(int... numbers) {
        if (text.length() + 20 > 500) {
            refused[1]++;
            return NONE;
        }
        StringBuilder more = new StringBuilder(text);
        for (int number : numbers) {
            for (int k = 3; k >= 0; k--) {
                more.append((char) (number >> (8 * k) & 255));
            }
        }
        text = more.toString();
        return text.length();
    }

    boolean end(int n) {
        if (n < 0 || n > text.length()) {
            refused[2]++;
            return false;
        }
        text = text.substring(0, n);
        return true;
    }

    int fault() {
        return read().fault;
    }

    int village() {
        Told next = read();
        if (next.fault != NONE) {
            refused[2]++;
            return NONE;
        }
        told = next;
        days = new Days();
        Arrays.fill(images, null);
        text = "";
        return told.alone.size();
    }

    /** Tokens with their places; a byte that begins none is a token that stands nowhere. */
    private List<Object[]> tokens() {
        List<Object[]> tokens = new ArrayList<>();
        var matcher = java.util.regex.Pattern.compile("[a-z]+|[0-9]+|;|[^ \n]", java.util.regex.Pattern.DOTALL)
            .matcher(text);
        while (matcher.find()) {
            tokens.add(new Object[] {matcher.start(), matcher.group()});
        }
        tokens.add(new Object[] {text.length(), ""});
        return tokens;
    }

    private static final class Wrong extends RuntimeException {
        private static final long serialVersionUID = 1;
    }

    private Told read() {
        Told next = new Told();
        List<Object[]> tokens = tokens();
        int[] at = {0};
        try {
            while (!tokens.get(at[0])[1].equals("")) {
                line(next, tokens, at);
            }
            if (next.side(true).isEmpty() || next.side(false).isEmpty()) {
                next.fault = text.length();
            }
        } catch (Wrong wrong) {
            next.fault = (Integer) tokens.get(at[0])[0];
        }
        return next;
    }

    private static void must(boolean holds) {
        if (!holds) {
            throw new Wrong();
        }
    }

    private void line(Told next, List<Object[]> tokens, int[] at) {
        String word = (String) tokens.get(at[0])[1];
        must(WORDS.contains(word));
        switch (word) {
            case "left", "right" -> {
                int number = next.side(word.equals("left")).size();
                must(number < 4);
                String name = (String) tokens.get(++at[0])[1];
                must(name.matches("[a-z]{1,8}") && !WORDS.contains(name) && !next.names.containsKey(name));
                at[0]++;
                int alone = number(tokens, at, 0, 99);
                next.names.put(name, number + (word.equals("left") ? 0 : 10));
                next.alone.put(next.names.get(name), alone);
            }
            case "think", "fit" -> {
                boolean fit = word.equals("fit");
                Integer one = next.names.get((String) tokens.get(++at[0])[1]);
                must(one != null && (!fit || one < 10));
                Integer other = next.names.get((String) tokens.get(++at[0])[1]);
                must(other != null && one / 10 != other / 10);
                String both = one + " " + other;
                must(!(fit ? next.fits.containsKey(both) : next.thoughts.containsKey(both)));
                at[0]++;
                if (fit) {
                    next.fits.put(both, number(tokens, at, 0, 16));
                } else {
                    int c = number(tokens, at, 0, 16);
                    int g = number(tokens, at, 0, 16);
                    next.thoughts.put(both, new int[] {c, g, number(tokens, at, 0, g)});
                }
            }
            default -> {
                must(!next.once.containsKey(word));
                at[0]++;
                next.once.put(word, switch (word) {
                    case "worth" -> new int[] {number(tokens, at, 0, 99), number(tokens, at, 0, 99)};
                    case "house" -> new int[] {number(tokens, at, 1, 9), number(tokens, at, 0, 99)};
                    case "child" -> new int[] {number(tokens, at, 0, 16), number(tokens, at, 0, 99)};
                    case "cow" -> new int[] {number(tokens, at, 0, 999)};
                    default -> new int[] {number(tokens, at, 1, 4)};
                });
            }
        }
        must(tokens.get(at[0])[1].equals(";"));
        at[0]++;
    }

    private static int number(List<Object[]> tokens, int[] at, int least, int most) {
        String word = (String) tokens.get(at[0])[1];
        must(word.matches("[0-9]+"));
        BigInteger number = new BigInteger(word);
        must(number.compareTo(BigInteger.valueOf(least)) >= 0 && number.compareTo(BigInteger.valueOf(most)) <= 0);
        at[0]++;
        return number.intValue();
    }

    // What is told.

    private boolean is(int p) {
        return told != null && told.alone.containsKey(p);
    }

    private boolean unlike(int p, int q) {
        return is(p) && is(q) && p / 10 != q / 10;
    }

    int person(int p, int what) {
        if (!is(p) || what < 0 || what > 2) {
            return VOID;
        }
        return new int[] {told.alone.get(p), days.mateOf(p), days.since.getOrDefault(p, 0)}[what];
    }

    int earned(int p) {
        return is(p) ? days.purse.getOrDefault(p, 0) : VOID;
    }

    int two(int p, int q, int what) {
        if (!unlike(p, q) || what < 0 || what > 4) {
            return NONE;
        }
        int[] known = days.of(p, q);
        int yes = days.mateOf(p) == q ? days.yes.getOrDefault(p, 0) : 0;
        return new int[] {known[0], known[1], known[2], told.fit(p, q), yes}[what];
    }

    int think(int p, int q, int what) {
        return unlike(p, q) && what >= 0 && what <= 2 ? told.thought(p, q)[what] : NONE;
    }

    private static BigInteger big(long n) {
        return BigInteger.valueOf(n);
    }

    private int shown(int p, int q, int what, int a, int b) {
        int[] thought = told.thought(p, q);
        BigInteger r = big(thought[0]).multiply(big(thought[1]).pow(a)).multiply(big(16 - thought[1]).pow(b));
        BigInteger u = big(16 - thought[0]).multiply(big(thought[2]).pow(a)).multiply(big(16 - thought[2]).pow(b));
        if (r.add(u).signum() == 0) {
            return 0;
        }
        if (what == 0) {
            return r.multiply(big(1000)).divide(r.add(u)).intValue();
        }
        BigInteger good = r.multiply(big(thought[1])).add(u.multiply(big(thought[2])));
        return good.multiply(big(1000)).divide(r.add(u).multiply(big(16))).intValue();
    }

    int shown(int p, int q, int what) {
        if (!unlike(p, q) || what < 0 || what > 1) {
            return NONE;
        }
        return shown(p, q, what, days.of(p, q)[0], days.of(p, q)[1]);
    }

    private int liking(int p, int q, int a, int b) {
        int g = shown(p, q, 1, a, b);
        return g * told.at("worth", 0) + (1000 - g) * told.at("worth", 1)
            + 1000 * told.at("child", 1) * days.of(p, q)[2];
    }

    int liking(int p, int q) {
        return unlike(p, q) ? liking(p, q, days.of(p, q)[0], days.of(p, q)[1]) : NONE;
    }

    int sooner(int p, int q, int r) {
        return unlike(p, q) && unlike(p, r) ? (would(p, q, r, true) ? 1 : 0) : NONE;
    }

    private int liking(int p, int q, boolean known) {
        return known ? liking(p, q) : liking(p, q, 0, 0);
    }

    private boolean would(int p, int q, int r, boolean known) {
        int more = liking(p, q, known) - liking(p, r, known);
        return more > 0 || more == 0 && q < r;
    }

    private boolean would(int p, int q, boolean known) {
        return liking(p, q, known) > 1000 * told.alone.get(p);
    }

    private boolean bothWould(int p, int q, boolean known) {
        return would(p, q, known) && would(q, p, known);
    }

    // BEST.

    /** One who reckons: whom p has and for how long, what p knows of each, and the COW. */
    private final class Reckoning {
        final int p;
        int has;
        int years;
        int cow = told.at("cow", 0);
        int never = NONE;
        final Map<Integer, int[]> known = new TreeMap<>();

        Reckoning(int p) {
            this.p = p;
            has = days.mateOf(p);
            years = days.since.getOrDefault(p, 0);
            for (int q : told.side(p >= 10)) {
                known.put(q, new int[] {days.of(p, q)[0], days.of(p, q)[1]});
            }
        }

        Reckoning after(int q, boolean good) {
            Reckoning next = new Reckoning(p);
            known.forEach((k, v) -> next.known.put(k, v.clone()));
            int[] of = next.known.get(q);
            of[good ? 0 : 1] = Math.min(4, of[good ? 0 : 1] + 1);
            next.years = q == has ? years + 1 : 1;
            next.has = q;
            next.cow = cow;
            next.never = never;
            return next;
        }

        Reckoning alone() {
            Reckoning next = new Reckoning(p);
            next.known.putAll(known);
            next.years = 0;
            next.has = NONE;
            next.cow = cow;
            next.never = never;
            return next;
        }

        List<Integer> acts() {
            List<Integer> acts = new ArrayList<>();
            acts.add(has);
            if (has != NONE) {
                acts.add(NONE);
            }
            for (int q : known.keySet()) {
                if (q != has && q != never) {
                    acts.add(q);
                }
            }
            return acts;
        }

        long act(int n, int q) {
            long worth = has != NONE && q != has ? -1000L * cow : 0;
            if (q == NONE) {
                return worth + 1000L * told.alone.get(p) + alone().worth(n - 1);
            }
            int a = known.get(q)[0];
            int b = known.get(q)[1];
            worth += liking(p, q, a, b);
            if (q == has && years >= told.at("house", 0)) {
                worth += 1000L * told.at("house", 1);
            }
            if (n == 1) {
                return worth;
            }
            int g = shown(p, q, 1, a, b);
            return worth + (g * after(q, true).worth(n - 1) + (1000 - g) * after(q, false).worth(n - 1)) / 1000;
        }

        long worth(int n) {
            return n == 0 ? 0 : acts().stream().mapToLong(q -> act(n, q)).max().getAsLong();
        }

        int best(int n) {
            int best = has;
            long most = Long.MIN_VALUE;
            for (int q : acts()) {
                long worth = act(n, q);
                if (worth > most) {
                    most = worth;
                    best = q;
                }
            }
            return best;
        }

        boolean silent(int n) {
            return has != NONE && best(n) != has;
        }
    }

    private static boolean mays(int n) {
        return n >= 1 && n <= 4;
    }

    int best(int p, int n, int what) {
        if (!is(p) || !mays(n) || what < 0 || what > 1) {
            return VOID;
        }
        return what == 0 ? (int) new Reckoning(p).worth(n) : new Reckoning(p).best(n);
    }

    int act(int p, int n, int q) {
        return is(p) && mays(n) && (q == NONE || unlike(p, q)) ? (int) new Reckoning(p).act(n, q) : VOID;
    }

    int silent(int p, int n) {
        return is(p) && mays(n) ? (new Reckoning(p).silent(n) ? 1 : 0) : NONE;
    }

    int bar(int p, int q, int m, int n) {
        if (!unlike(p, q) || m < 1 || m > 6 || !mays(n)) {
            return NONE;
        }
        for (int a = 0; a <= m; a++) {
            Reckoning reckoning = new Reckoning(p);
            reckoning.has = q;
            reckoning.years = m;
            reckoning.known.put(q, new int[] {Math.min(4, a), Math.min(4, m - a)});
            if (!reckoning.silent(n)) {
                return a;
            }
        }
        return NONE;
    }

    int price(int p, int n) {
        if (!is(p) || !mays(n) || days.mateOf(p) == NONE) {
            return NONE;
        }
        for (int cow = 0; cow <= 999; cow++) {
            Reckoning reckoning = new Reckoning(p);
            reckoning.cow = cow;
            if (!reckoning.silent(n)) {
                return cow;
            }
        }
        return NONE;
    }

    int waits(int p, int q, int n) {
        if (!unlike(p, q) || n < 2 || n > 4 || days.mateOf(p) == q) {
            return VOID;
        }
        int cow = days.mateOf(p) == NONE ? 0 : told.at("cow", 0);
        Reckoning without = new Reckoning(p);
        without.never = q;
        return (int) (1000 * (told.alone.get(p) - cow) + (n - 1) * liking(p, q) - without.worth(n));
    }

    // The green.

    /** Whom each of these would be with, by a WAY. */
    private Map<Integer, Integer> pairUp(int way, List<Integer> here, boolean known) {
        List<Integer> lefts = here.stream().filter(p -> p < 10).toList();
        List<Integer> rights = here.stream().filter(p -> p >= 10).toList();
        BiPredicate<Integer, Integer> can = (p, q) -> bothWould(p, q, known);
        Map<Integer, Integer> mate = new HashMap<>();
        if (way < 2) {
            return stable(way == 0 ? lefts : rights, way == 0 ? rights : lefts, known);
        }
        for (int left : lefts) {
            List<Integer> open = new ArrayList<>(rights.stream()
                .filter(q -> !mate.containsKey(q) && can.test(left, q)).toList());
            if (open.isEmpty()) {
                continue;
            }
            if (way == 2) {
                open.sort((q, r) -> q.equals(r) ? 0 : would(left, q, r, known) ? -1 : 1);
            }
            int right = open.get(way == 2 ? 0 : days.lot(open.size()));
            mate.put(left, right);
            mate.put(right, left);
        }
        return mate;
    }

    /** Of all ways in which no couple would break out, the one best for those who ask: by trying all. */
    private Map<Integer, Integer> stable(List<Integer> askers, List<Integer> asked, boolean known) {
        List<Map<Integer, Integer>> all = new ArrayList<>();
        spread(askers, 0, asked, new HashMap<>(), all);
        Map<Integer, Integer> best = null;
        for (Map<Integer, Integer> mate : all) {
            if (isStable(mate, askers, asked, known) && (best == null || isBetter(mate, best, askers, known))) {
                best = mate;
            }
        }
        return best;
    }

    private void spread(List<Integer> askers, int k, List<Integer> asked, Map<Integer, Integer> mate,
            List<Map<Integer, Integer>> all) {
        if (k == askers.size()) {
            all.add(new HashMap<>(mate));
            return;
        }
        spread(askers, k + 1, asked, mate, all);
        for (int q : asked) {
            if (!mate.containsKey(q)) {
                mate.put(askers.get(k), q);
                mate.put(q, askers.get(k));
                spread(askers, k + 1, asked, mate, all);
                mate.remove(q);
                mate.remove(askers.get(k));
            }
        }
    }

    private boolean isStable(Map<Integer, Integer> mate, List<Integer> ones, List<Integer> others, boolean known) {
        for (int p : ones) {
            if (mate.containsKey(p) && !bothWould(p, mate.get(p), known)) {
                return false;
            }
            for (int q : others) {
                boolean breaks = bothWould(p, q, known) && !Integer.valueOf(q).equals(mate.get(p))
                    && (!mate.containsKey(p) || would(p, q, mate.get(p), known))
                    && (!mate.containsKey(q) || would(q, p, mate.get(q), known));
                if (breaks) {
                    return false;
                }
            }
        }
        return true;
    }

    private boolean isBetter(Map<Integer, Integer> mate, Map<Integer, Integer> than, List<Integer> askers,
            boolean known) {
        for (int p : askers) {
            if (mate.containsKey(p) && than.containsKey(p) && would(p, than.get(p), mate.get(p), known)
                && !mate.get(p).equals(than.get(p))) {
                return false;
            }
        }
        return true;
    }

    private List<Integer> all() {
        return new ArrayList<>(told.alone.keySet());
    }

    boolean way(int way) {
        if (way < 0 || way > 3) {
            refused[0]++;
            return false;
        }
        days.way = way;
        return true;
    }

    boolean seed(int seed) {
        if (seed < 0 || seed > 1000000) {
            refused[2]++;
            return false;
        }
        days.x = seed;
        return true;
    }

    int green(int way, int p) {
        return is(p) && way >= 0 && way <= 2 ? pairUp(way, all(), true).getOrDefault(p, NONE) : VOID;
    }

    int may(int n) {
        if (told == null || n < 1 || n > 50) {
            refused[2]++;
            return NONE;
        }
        for (int k = 0; k < n; k++) {
            oneMay();
        }
        return days.year;
    }

    private void pay(int p, int more) {
        days.purse.merge(p, more, Integer::sum);
    }

    private void oneMay() {
        List<Integer> silent = all().stream()
            .filter(p -> new Reckoning(p).silent(told.at("ahead", 0))).toList();
        for (int p : told.side(true)) {
            int q = days.mateOf(p);
            if (q == NONE) {
                continue;
            }
            int who = (silent.contains(p) ? 1 : 0) + (silent.contains(q) ? 2 : 0);
            if (who == 0) {
                days.yes.merge(p, 1, Integer::sum);
                days.yes.merge(q, 1, Integer::sum);
            } else {
                days.log.add(new int[] {days.year, p, q, days.since.getOrDefault(p, 0), who});
                days.end(p);
            }
        }
        silent.forEach(p -> pay(p, -told.at("cow", 0)));
        while (days.log.size() > 40) {
            days.log.remove(0);
        }
        List<Integer> free = all().stream().filter(p -> days.mateOf(p) == NONE).toList();
        days.mate.putAll(pairUp(days.way, free, true));
        oneYear();
    }

    private void oneYear() {
        for (int p : all()) {
            int q = days.mateOf(p);
            if (q == NONE) {
                pay(p, told.alone.get(p));
            }
            if (q == NONE || p >= 10) {
                continue;
            }
            boolean good = days.lot(16) < told.fit(p, q);
            boolean child = days.lot(16) < told.at("child", 0);
            int[] known = days.of(p, q);
            int worth = told.at("worth", good ? 0 : 1) + told.at("child", 1) * known[2];
            worth += days.since.getOrDefault(p, 0) >= told.at("house", 0) ? told.at("house", 1) : 0;
            for (int one : new int[] {p, q}) {
                pay(one, worth);
                days.since.merge(one, 1, Integer::sum);
            }
            int k = good ? 0 : 1;
            known[k] = Math.min(4, known[k] + 1);
            known[2] = Math.min(99, known[2] + (child ? 1 : 0));
        }
        days.year++;
    }

    boolean join(int left, int right) {
        if (!unlike(left, right) || left >= 10) {
            refused[0]++;
            return false;
        }
        if (days.mateOf(left) != NONE || days.mateOf(right) != NONE) {
            refused[2]++;
            return false;
        }
        days.mate.put(left, right);
        days.mate.put(right, left);
        return true;
    }

    boolean part(int p) {
        if (!is(p)) {
            refused[0]++;
            return false;
        }
        if (days.mateOf(p) == NONE) {
            refused[2]++;
            return false;
        }
        days.end(p);
        return true;
    }

    int log(int k, int what) {
        if (k == NONE) {
            return days.log.size();
        }
        return k < 0 || k >= days.log.size() || what < 0 || what > 4 ? NONE : days.log.get(k)[what];
    }

    int blocks(int k) {
        if (told == null) {
            return k == NONE ? 0 : NONE;
        }
        List<Integer> couples = new ArrayList<>();
        for (int p : told.side(true)) {
            for (int q : told.side(false)) {
                int mine = days.mateOf(p);
                int theirs = days.mateOf(q);
                if (mine != q && bothWould(p, q, true) && (mine == NONE || would(p, q, mine, true))
                    && (theirs == NONE || would(q, p, theirs, true))) {
                    couples.add(p * 100 + q);
                }
            }
        }
        return k == NONE ? couples.size() : k < 0 || k >= couples.size() ? NONE : couples.get(k);
    }

    // The sums.

    private int sum(Map<Integer, Integer> mate, int years, boolean house) {
        int sum = 0;
        for (int p : all()) {
            for (int year = 0; year < years; year++) {
                if (!mate.containsKey(p)) {
                    sum += 16 * told.alone.get(p);
                    continue;
                }
                int fit = told.fit(p, mate.get(p));
                sum += fit * told.at("worth", 0) + (16 - fit) * told.at("worth", 1);
                sum += house && year >= told.at("house", 0) ? 16 * told.at("house", 1) : 0;
            }
        }
        return sum;
    }

    private Map<Integer, Integer> byParents() {
        List<Map<Integer, Integer>> all = new ArrayList<>();
        spread(told.side(true), 0, told.side(false), new HashMap<>(), all);
        return all.stream().max((one, other) -> {
            int more = sum(one, 1, false) - sum(other, 1, false);
            return more != 0 ? more : -inOrder(one).compareTo(inOrder(other));
        }).get();
    }

    private String inOrder(Map<Integer, Integer> mate) {
        StringBuilder order = new StringBuilder();
        for (int p : told.side(true)) {
            order.append((char) (mate.getOrDefault(p, 0) + 'a'));
        }
        return order.toString();
    }

    int parents(int p) {
        if (told == null || p != NONE && !is(p)) {
            return VOID;
        }
        return p == NONE ? sum(byParents(), 1, false) : byParents().getOrDefault(p, NONE);
    }

    int life(int years, int what) {
        if (told == null || years < 1 || years > 100 || what < 0 || what > 1) {
            return VOID;
        }
        int sum = sum(pairUp(0, all(), false), years, true);
        return what == 0 ? sum : sum - sum(byParents(), years, true);
    }

    int never(int what) {
        if (told == null || what < 0 || what > 1) {
            return VOID;
        }
        if (what == 1) {
            return sum(byParents(), 1, false) - sum(days.mate, 1, false);
        }
        return (int) byParents().entrySet().stream()
            .filter(e -> e.getKey() < 10)
            .filter(e -> days.of(e.getKey(), e.getValue())[0] + days.of(e.getKey(), e.getValue())[1] == 0)
            .count();
    }

    int pairs(int m, int what) {
        if (what < 0 || what > 1 || m < 0 || m > 100) {
            return NONE;
        }
        return (int) days.mate.keySet().stream()
            .filter(p -> p < 10 && (what == 0 || days.yes.getOrDefault(p, 0) >= m)).count();
    }

    boolean image(int k) {
        if (k < 0 || k > 2 || told == null) {
            refused[k < 0 || k > 2 ? 0 : 2]++;
            return false;
        }
        images[k] = days.copy();
        return true;
    }

    boolean on(int k) {
        if (k < 0 || k > 2 || images[k] == null) {
            refused[0]++;
            return false;
        }
        days = images[k].copy();
        return true;
    }

    int status(int reason) {
        return reason < 0 || reason > 2 ? NONE : refused[reason];
    }

    int count(int what) {
        if (what < 0 || what > 5) {
            return NONE;
        }
        if (what == 5) {
            return text.length();
        }
        return told == null ? 0 : new int[] {told.side(true).size(), told.side(false).size(), days.year, days.way,
            told.at("ahead", 0)}[what];
    }
}
