import java.nio.charset.StandardCharsets;
import java.util.NoSuchElementException;
import java.util.Random;

/**
 * Random runs of calls, each answered by the class and by the oracle. By two arguments other runs
 * than those of .ci/run: the first one and the one behind the last.
 */
public final class OracleTest {
    private static final int RUNS = 126;
    // Beyond the last one the document promises nothing.
    private static final int MOST_CALLS = 512;
    private static final int RANDOM_CALLS = 400;
    private static final long THROWN = Long.MIN_VALUE;

    // Calls that change something: how often each comes, by the style of the run.
    private static final String[] STYLES = {
        "insert*6 move*4 drop*2 change*2 revert*1 deliver*6 lose*1 twice*1 sync*2 tell*2 sweep*2",
        "insert*3 move*4 drop*3 change*1 revert*1 gather*4 sweep*4",
        "insert*6 move*6 drop*1 change*3 deliver*1",
        "chance*3 deliver*2 sync*1 gather*1 sweep*1 revert*1",
        "script*6 chance*1 image*1 back*1 gather*1",
        "insert*2 move*3 drop*2 deliver*10 twice*2 lose*2 tell*4 sweep*3",
        "insert*3 move*3 drop*2 revert*3 image*2 back*2 sync*3 tell*3 sweep*3 sites*0",
    };

    private static final String[] DEEDS = {"insert", "move", "drop", "change", "deliver", "lose",
        "twice", "sync", "tell", "sweep", "all"};
    private static final String[] SHAPES = {"nnl", "nnn", "nn", "nnl", "nn", "nn", "nn", "nn",
        "nn", "n", ""};

    private final Random random;
    private final MovingList x = new MovingList();
    private final Oracle o = new Oracle();
    private final String[] acts;
    private final StringBuilder told = new StringBuilder();
    private int calls;
    private boolean wrong;

    private OracleTest(int run) {
        random = new Random(run);
        String[] style = STYLES[run % STYLES.length].split(" ");
        StringBuilder row = new StringBuilder();
        for (String s : style) {
            String[] parts = s.split("\\*");
            for (int k = 0; k < Integer.parseInt(parts[1]); k++) {
                row.append(parts[0]).append(' ');
            }
        }
        acts = row.toString().trim().split(" ");
    }

    public static void main(String[] args) {
        int wrong = 0;
        long calls = 0;
        int first = args.length == 2 ? Integer.parseInt(args[0]) : 0;
        int end = args.length == 2 ? Integer.parseInt(args[1]) : RUNS;
        for (int run = first; run < end && wrong < 3; run++) {
            OracleTest test = new OracleTest(run);
            test.go();
            calls += test.calls;
            if (test.wrong) {
                wrong++;
                System.out.println("run " + run + ": " + test.told);
            }
        }
        System.out.println(calls + " calls, " + wrong + " runs not as the oracle answers");
        if (wrong != 0) {
            System.exit(1);
        }
    }

    private void go() {
        if (random.nextInt(3) > 0) {
            due("sites", 2 + random.nextInt(4), 0, 0);
        }
        while (calls < RANDOM_CALLS && !wrong) {
            if (random.nextInt(5) < 2) {
                act();
            } else {
                ask();
            }
            if (random.nextInt(200) == 0) {
                due("sites", random.nextInt(9) - 1, 0, 0);
            }
        }
        for (int s = 0; s < o.all(0) && !wrong; s++) {
            askSite(s);
        }
    }

    private void due(String call, int a, int b, int c) {
        if (wrong || calls == MOST_CALLS) {
            return;
        }
        calls++;
        long want = askOracle(call, a, b, c);
        long got = askClass(call, a, b, c);
        told.append(call).append('(').append(a).append(", ").append(b).append(", ").append(c)
                .append(") ").append(got == THROWN ? "throws" : String.valueOf(got)).append("; ");
        if (want != got) {
            wrong = true;
            told.append("due is ").append(want == THROWN ? "throws" : String.valueOf(want));
        }
    }

    // ---- arguments

    private int site() {
        return random.nextInt(25) == 0 ? odd() : random.nextInt(o.all(0));
    }

    private int odd() {
        int[] odds = {-1, -2, 5, 6, 40, 60, 100, 400, 500, Integer.MAX_VALUE, Integer.MIN_VALUE,
            o.all(0), -100, -101, 199, 200, 26, 3, 4, 501, 540};
        return odds[random.nextInt(odds.length)];
    }

    private int upTo(int n) {
        return random.nextInt(25) == 0 ? odd() : random.nextInt(Math.max(1, n + 1));
    }

    private int letter() {
        return random.nextInt(25) == 0 ? odd() : random.nextInt(26);
    }

    private int name() {
        if (random.nextInt(25) == 0) {
            return odd();
        }
        int s = random.nextInt(o.all(0));
        int made = o.count(s, 5);
        int least = Math.min(1, made);
        return 100 * s + (random.nextInt(12) == 0 ? from(0, made + 1) : from(least, made));
    }

    private int from(int least, int most) {
        return least + random.nextInt(most - least + 1);
    }

    // ---- calls that change something

    private void act() {
        String act = acts[random.nextInt(acts.length)];
        int s = site();
        int n = Math.max(0, o.length(s));
        int waits = Math.max(0, o.post(s, 0, -1));
        switch (act) {
            case "insert" -> due(act, s, upTo(n), letter());
            case "move" -> due(act, s, upTo(n), upTo(n));
            case "drop" -> due(act, s, upTo(n), 0);
            case "change" -> due(act, s, upTo(n), letter());
            case "chance" -> due(act, random.nextInt(8) == 0 ? odd() : from(0, 61),
                    random.nextInt(), 0);
            case "deliver", "lose", "twice" -> due(act, s, upTo(waits), 0);
            case "sync", "tell" -> due(act, s, site(), 0);
            case "image", "back" -> due(act, from(-1, 2), 0, 0);
            case "gather" -> gather();
            case "script" -> script();
            default -> due(act, s, 0, 0);
        }
    }

    /** Much is done everywhere and told, so that there is something to sweep. */
    private void gather() {
        int n = o.all(0);
        for (int k = 0; k < 2 * n; k++) {
            due("sync", k % n, (k + 1) % n, 0);
        }
        int to = random.nextInt(n);
        for (int s = 0; s < n; s++) {
            if (random.nextInt(12) > 0) {
                due("tell", s, to, 0);
            }
        }
        due("count", to, 3, 0);
        due("sweep", to, 0, 0);
        askSite(to);
    }

    private void script() {
        StringBuilder text = new StringBuilder();
        int deeds = random.nextInt(20);
        for (int k = 0; k < deeds; k++) {
            int d = random.nextInt(DEEDS.length);
            blanks(text, random.nextInt(3));
            text.append(DEEDS[d]);
            for (char c : SHAPES[d].toCharArray()) {
                blanks(text, random.nextInt(4) > 0 ? 1 : 0);
                if (c == 'l') {
                    text.append((char) ('a' + random.nextInt(26)));
                } else {
                    blanks(text, 1);
                    text.append(random.nextInt(30) == 0 ? from(0, 1200) : random.nextInt(3));
                }
            }
            blanks(text, random.nextInt(2));
            text.append(';');
        }
        spoil(text);
        text.setLength(Math.min(text.length(), 400));
        byte[] bytes = new byte[(text.length() + 19) / 20 * 20 + 20];
        for (int i = 0; i < bytes.length; i++) {
            bytes[i] = (byte) (i < text.length() ? text.charAt(i) : ' ');
        }
        for (int i = 0; i < bytes.length; i += 20) {
            feed(bytes, i);
        }
        due("all", 5, 0, 0);
        due("script", random.nextInt(12) == 0 ? from(-1, 410) : text.length(), 0, 0);
    }

    private void blanks(StringBuilder text, int n) {
        for (int k = 0; k < n; k++) {
            text.append(random.nextInt(5) == 0 ? '\n' : ' ');
        }
    }

    private void spoil(StringBuilder text) {
        if (text.length() == 0 || random.nextInt(3) > 0) {
            return;
        }
        String signs = " \n;aetlz0123456789A\t\r{}`:/";
        int spoils = 1 + random.nextInt(2);
        for (int k = 0; k < spoils; k++) {
            int i = random.nextInt(text.length());
            char sign = random.nextInt(10) == 0 ? (char) random.nextInt(256)
                    : signs.charAt(random.nextInt(signs.length()));
            switch (random.nextInt(3)) {
                case 0 -> text.setCharAt(i, sign);
                case 1 -> text.insert(i, sign);
                default -> text.deleteCharAt(i);
            }
            if (text.length() == 0) {
                return;
            }
        }
    }

    private void feed(byte[] b, int i) {
        calls++;
        int want = o.feed(Check.number(b, i), Check.number(b, i + 4), Check.number(b, i + 8),
                Check.number(b, i + 12), Check.number(b, i + 16));
        int got = x.feed(Check.number(b, i), Check.number(b, i + 4), Check.number(b, i + 8),
                Check.number(b, i + 12), Check.number(b, i + 16));
        told.append("feed ").append(new String(b, i, 20, StandardCharsets.ISO_8859_1)).append("; ");
        if (want != got) {
            wrong = true;
            told.append("answered ").append(got).append(", due is ").append(want);
        }
    }

    // ---- calls that only ask

    private void ask() {
        int s = site();
        int n = Math.max(0, o.length(s));
        switch (random.nextInt(20)) {
            case 0 -> due("length", s, 0, 0);
            case 1, 2 -> due("at", s, upTo(n), from(-1, 4));
            case 3 -> due("index", s, name(), 0);
            case 4 -> due("vector", s, site(), 0);
            case 5 -> due("knows", s, site(), site());
            case 6 -> due("floor", s, site(), 0);
            case 7 -> due("post", s, from(-1, 2), from(-2, 62));
            case 8 -> due("op", name(), from(-1, 5), 0);
            case 9 -> due("needs", name(), site(), 0);
            case 10 -> due("ahead", name(), name(), 0);
            case 11 -> due("found", name(), from(-2, 12), 0);
            case 12 -> due("rivals", name(), from(-2, 2), 0);
            case 13 -> due("has", s, name(), 0);
            case 14 -> due("count", s, from(-1, 8), 0);
            case 15 -> due("place", s, upTo(40), 0);
            case 16 -> due("unlike", s, site(), 0);
            case 17 -> due("edits", s, site(), 0);
            case 18 -> due("settled", from(-2, 30), from(-1, 2), 0);
            default -> due("all", from(-1, 8), 0, 0);
        }
    }

    private void askSite(int s) {
        int n = o.length(s);
        for (int i = 0; i < n; i++) {
            due("at", s, i, 0);
            due("at", s, i, 1);
            due("at", s, i, 2);
        }
        for (int what = 0; what < 8; what++) {
            due("count", s, what, 0);
        }
        int places = o.count(s, 0);
        for (int i = 0; i < places; i++) {
            due("place", s, i, 0);
        }
    }

    private static long bit(boolean answer) {
        return answer ? 1 : 0;
    }

    private long askClass(String call, int a, int b, int c) {
        switch (call) {
            case "sites": return bit(x.sites(a));
            case "insert": return x.insert(a, b, c);
            case "move": return x.move(a, b, c);
            case "drop": return x.drop(a, b);
            case "change": return x.change(a, b, c);
            case "revert": return x.revert(a);
            case "chance": return x.chance(a, b);
            case "deliver": return x.deliver(a, b);
            case "lose": return x.lose(a, b);
            case "twice": return x.twice(a, b);
            case "sync": return x.sync(a, b);
            case "tell": return bit(x.tell(a, b));
            case "sweep": return x.sweep(a);
            case "length": return x.length(a);
            case "at":
                try {
                    return x.at(a, b, c);
                } catch (NoSuchElementException e) {
                    return THROWN;
                }
            case "index": return x.index(a, b);
            case "vector": return x.vector(a, b);
            case "knows": return x.knows(a, b, c);
            case "floor": return x.floor(a, b);
            case "post": return x.post(a, b, c);
            case "op": return x.op(a, b);
            case "needs": return x.needs(a, b);
            case "ahead": return x.ahead(a, b);
            case "found": return x.found(a, b);
            case "rivals": return x.rivals(a, b);
            case "has": return bit(x.has(a, b));
            case "count": return x.count(a, b);
            case "place": return x.place(a, b);
            case "unlike": return x.unlike(a, b);
            case "edits": return x.edits(a, b);
            case "settled": return x.settled(a, b);
            case "script": return x.script(a);
            case "image": return bit(x.image(a));
            case "back": return bit(x.back(a));
            case "all": return x.all(a);
            default: throw new IllegalArgumentException(call);
        }
    }

    private long askOracle(String call, int a, int b, int c) {
        switch (call) {
            case "sites": return bit(o.sites(a));
            case "insert": return o.insert(a, b, c);
            case "move": return o.move(a, b, c);
            case "drop": return o.drop(a, b);
            case "change": return o.change(a, b, c);
            case "revert": return o.revert(a);
            case "chance": return o.chance(a, b);
            case "deliver": return o.deliver(a, b);
            case "lose": return o.lose(a, b);
            case "twice": return o.twice(a, b);
            case "sync": return o.sync(a, b);
            case "tell": return bit(o.tell(a, b));
            case "sweep": return o.sweep(a);
            case "length": return o.length(a);
            case "at":
                try {
                    return o.at(a, b, c);
                } catch (NoSuchElementException e) {
                    return THROWN;
                }
            case "index": return o.index(a, b);
            case "vector": return o.vector(a, b);
            case "knows": return o.knows(a, b, c);
            case "floor": return o.floor(a, b);
            case "post": return o.post(a, b, c);
            case "op": return o.op(a, b);
            case "needs": return o.needs(a, b);
            case "ahead": return o.ahead(a, b);
            case "found": return o.found(a, b);
            case "rivals": return o.rivals(a, b);
            case "has": return bit(o.has(a, b));
            case "count": return o.count(a, b);
            case "place": return o.place(a, b);
            case "unlike": return o.unlike(a, b);
            case "edits": return o.edits(a, b);
            case "settled": return o.settled(a, b);
            case "script": return o.script(a);
            case "image": return bit(o.image(a));
            case "back": return bit(o.back(a));
            case "all": return o.all(a);
            default: throw new IllegalArgumentException(call);
        }
    }
}
