import java.util.ArrayList;
import java.util.Collections;
import java.util.Comparator;
import java.util.HashMap;
import java.util.HashSet;
import java.util.List;
import java.util.Map;
import java.util.NoSuchElementException;
import java.util.Set;
import java.util.TreeMap;
import java.util.TreeSet;

/**
 * The document told a second time, as plainly as can be: each answer is worked out anew from sets
 * of ops by the words of the terms, with no care for time or room.
 */
final class Oracle {
    static final int NONE = -1;

    record Op(int name, int kind, int time, int element, int behind, int letter, int[] needs) {
        int site() {
            return name / 100;
        }

        int number() {
            return name % 100;
        }
    }

    /** What one site holds. */
    static final class Place {
        final Set<Integer> done = new TreeSet<>();
        final Set<Integer> swept = new TreeSet<>();
        final Map<Integer, int[]> knows = new TreeMap<>();
        final List<Integer> waiting = new ArrayList<>();
        final List<Integer> held = new ArrayList<>();
        int clock;

        Place copy() {
            Place p = new Place();
            p.done.addAll(done);
            p.swept.addAll(swept);
            p.knows.putAll(knows);
            p.waiting.addAll(waiting);
            p.held.addAll(held);
            p.clock = clock;
            return p;
        }
    }

    /** All of the group. */
    static final class World {
        final List<Place> sites = new ArrayList<>();
        final Map<Integer, Op> ops = new TreeMap<>();
        int lost;

        World copy() {
            World w = new World();
            for (Place p : sites) {
                w.sites.add(p.copy());
            }
            w.ops.putAll(ops);
            w.lost = lost;
            return w;
        }
    }

    private World w = new World();
    private final Map<Integer, World> images = new HashMap<>();
    private final List<Integer> tape = new ArrayList<>();
    private int x;

    Oracle() {
        sites(3);
    }

    boolean sites(int n) {
        if (n < 2 || n > 5) {
            return false;
        }
        w = new World();
        for (int s = 0; s < n; s++) {
            Place p = new Place();
            for (int t = 0; t < n; t++) {
                if (t != s) {
                    p.knows.put(t, new int[n]);
                }
            }
            w.sites.add(p);
        }
        images.clear();
        return true;
    }

    private boolean ok(int site) {
        return site >= 0 && site < w.sites.size();
    }

    private int made(int site) {
        int n = 0;
        for (Op o : w.ops.values()) {
            n += o.site() == site ? 1 : 0;
        }
        return n;
    }

    private int[] vec(int site) {
        int[] v = new int[w.sites.size()];
        for (int of = 0; of < v.length; of++) {
            while (w.sites.get(site).done.contains(100 * of + v[of] + 1)) {
                v[of]++;
            }
        }
        return v;
    }

    private static boolean later(Op a, Op b) {
        return a.time() != b.time() ? a.time() > b.time() : a.site() > b.site();
    }

    private static final Comparator<Op> BY_TIME = (a, b) -> a == b ? 0 : later(a, b) ? 1 : -1;

    private List<Op> inTime(Set<Integer> names) {
        List<Op> ops = new ArrayList<>();
        for (int name : names) {
            ops.add(w.ops.get(name));
        }
        ops.sort(BY_TIME);
        return ops;
    }

    // ---- by a set of ops that are done

    private static boolean isPlace(Op o) {
        return o.kind() == 0 || o.kind() == 1;
    }

    private int placeOf(Set<Integer> done, int element) {
        Op latest = null;
        for (int name : done) {
            Op o = w.ops.get(name);
            if (o.element() == element && isPlace(o) && (latest == null || later(o, latest))) {
                latest = o;
            }
        }
        return latest == null ? NONE : latest.name();
    }

    private int letterOf(Set<Integer> done, int element) {
        Op latest = null;
        for (int name : done) {
            Op o = w.ops.get(name);
            if (o.element() == element && (o.kind() == 0 || o.kind() == 3)
                    && (latest == null || later(o, latest))) {
                latest = o;
            }
        }
        return latest == null ? NONE : latest.letter();
    }

    private boolean isGone(Set<Integer> done, int element) {
        for (int name : done) {
            Op o = w.ops.get(name);
            if (o.element() == element && o.kind() == 2) {
                return true;
            }
        }
        return false;
    }

    private List<Integer> order(Set<Integer> done, Set<Integer> swept) {
        List<Integer> places = new ArrayList<>();
        comeBehind(0, done, swept, places);
        return places;
    }

    private void comeBehind(int place, Set<Integer> done, Set<Integer> swept, List<Integer> into) {
        into.add(place);
        List<Op> told = new ArrayList<>();
        for (int name : done) {
            Op o = w.ops.get(name);
            if (isPlace(o) && o.behind() == place && !swept.contains(name)) {
                told.add(o);
            }
        }
        told.sort(BY_TIME.reversed());
        for (Op o : told) {
            comeBehind(o.name(), done, swept, into);
        }
    }

    private List<Integer> list(Set<Integer> done, Set<Integer> swept) {
        List<Integer> list = new ArrayList<>();
        for (int place : order(done, swept)) {
            if (place != 0) {
                int element = w.ops.get(place).element();
                if (placeOf(done, element) == place && !isGone(done, element)) {
                    list.add(element);
                }
            }
        }
        return list;
    }

    private List<Integer> list(int site) {
        Place p = w.sites.get(site);
        return list(p.done, p.swept);
    }

    // ---- acts

    private int make(int site, int kind, int element, int behind, int letter) {
        int number = made(site) + 1;
        if (number > 40) {
            return NONE;
        }
        Place p = w.sites.get(site);
        int name = 100 * site + number;
        p.clock++;
        w.ops.put(name, new Op(name, kind, p.clock, kind == 0 ? name : element, behind, letter,
                vec(site)));
        p.done.add(name);
        for (Place other : w.sites) {
            if (other != p) {
                if (other.waiting.size() < 60) {
                    other.waiting.add(name);
                } else {
                    w.lost++;
                }
            }
        }
        return name;
    }

    int insert(int site, int i, int letter) {
        if (!ok(site) || letter < 0 || letter > 25 || i < 0 || i > list(site).size()) {
            return NONE;
        }
        int behind = i == 0 ? 0 : placeOf(w.sites.get(site).done, list(site).get(i - 1));
        return make(site, 0, NONE, behind, letter);
    }

    int move(int site, int i, int j) {
        if (!ok(site)) {
            return NONE;
        }
        List<Integer> list = list(site);
        if (i < 0 || i >= list.size() || j < 0 || j > list.size() - 1) {
            return NONE;
        }
        int element = list.remove(i);
        int behind = j == 0 ? 0 : placeOf(w.sites.get(site).done, list.get(j - 1));
        return make(site, 1, element, behind, NONE);
    }

    int drop(int site, int i) {
        if (!ok(site) || i < 0 || i >= list(site).size()) {
            return NONE;
        }
        return make(site, 2, list(site).get(i), NONE, NONE);
    }

    int change(int site, int i, int letter) {
        if (!ok(site) || i < 0 || i >= list(site).size() || letter < 0 || letter > 25) {
            return NONE;
        }
        return make(site, 3, list(site).get(i), NONE, letter);
    }

    private Set<Integer> needsSet(Op o) {
        Set<Integer> set = new TreeSet<>();
        for (Op other : w.ops.values()) {
            if (other.number() <= o.needs()[other.site()]) {
                set.add(other.name());
            }
        }
        return set;
    }

    int revert(int site) {
        if (!ok(site) || made(site) == 0 || made(site) == 40) {
            return NONE;
        }
        Op o = w.ops.get(100 * site + made(site));
        List<Integer> now = list(site);
        if (o.kind() != 2 && !now.contains(o.element())) {
            return NONE;
        }
        if (o.kind() == 0) {
            return make(site, 2, o.element(), NONE, NONE);
        }
        Set<Integer> before = needsSet(o);
        int letter = letterOf(before, o.element());
        if (o.kind() == 3) {
            return make(site, 3, o.element(), NONE, letter);
        }
        List<Integer> found = list(before, Set.of());
        int own = found.indexOf(o.element());
        int behind = 0;
        if (own > 0 && now.contains(found.get(own - 1))) {
            behind = placeOf(w.sites.get(site).done, found.get(own - 1));
        }
        return o.kind() == 1 ? make(site, 1, o.element(), behind, NONE)
                : make(site, 0, NONE, behind, letter);
    }

    private int draw(int m) {
        x = x * 1103515245 + 12345;
        return (x >>> 8) % m;
    }

    int chance(int n, int seed) {
        if (n < 1 || n > 60) {
            return NONE;
        }
        x = seed;
        int sum = 0;
        for (int k = 0; k < n; k++) {
            int site = draw(w.sites.size());
            int what = draw(8);
            int size = list(site).size();
            int waits = w.sites.get(site).waiting.size();
            int answer = NONE;
            if (what <= 2) {
                int i = draw(size + 1);
                int letter = draw(26);
                answer = insert(site, i, letter);
            } else if (what == 3 && size > 0) {
                int i = draw(size);
                int j = draw(size);
                answer = move(site, i, j);
            } else if (what == 4 && size > 0) {
                answer = drop(site, draw(size));
            } else if (what == 5 && size > 0) {
                int i = draw(size);
                int letter = draw(26);
                answer = change(site, i, letter);
            } else if (what == 6 && waits > 0) {
                answer = deliver(site, draw(waits));
            } else if (what == 7) {
                answer = sync(draw(w.sites.size()), site);
            }
            sum += answer == NONE ? 0 : 1;
        }
        return sum;
    }

    // ---- the post

    private boolean waits(int site, int i) {
        return ok(site) && i >= 0 && i < w.sites.get(site).waiting.size();
    }

    private boolean can(int site, int name) {
        int[] v = vec(site);
        for (int s = 0; s < v.length; s++) {
            if (v[s] < w.ops.get(name).needs()[s]) {
                return false;
            }
        }
        return true;
    }

    private void does(int site, int name) {
        Place p = w.sites.get(site);
        p.done.add(name);
        p.clock = Math.max(p.clock, w.ops.get(name).time());
        p.held.remove((Integer) name);
    }

    private int doesHeld(int site) {
        for (int name : w.sites.get(site).held) {
            if (can(site, name)) {
                does(site, name);
                return 1 + doesHeld(site);
            }
        }
        return 0;
    }

    int deliver(int site, int i) {
        if (!waits(site, i)) {
            return NONE;
        }
        Place p = w.sites.get(site);
        int name = p.waiting.remove(i);
        if (p.done.contains(name) || p.held.contains(name)) {
            return 0;
        }
        if (!can(site, name)) {
            p.held.add(name);
            return 0;
        }
        does(site, name);
        return 1 + doesHeld(site);
    }

    int lose(int site, int i) {
        if (!waits(site, i)) {
            return NONE;
        }
        w.lost++;
        return w.sites.get(site).waiting.remove(i);
    }

    int twice(int site, int i) {
        if (!waits(site, i) || w.sites.get(site).waiting.size() >= 60) {
            return NONE;
        }
        List<Integer> waiting = w.sites.get(site).waiting;
        waiting.add(waiting.get(i));
        return waiting.get(i);
    }

    int sync(int from, int to) {
        if (!ok(from) || !ok(to) || from == to) {
            return NONE;
        }
        int n = 0;
        for (Op o : inTime(w.sites.get(from).done)) {
            if (!w.sites.get(to).done.contains(o.name())) {
                if (!can(to, o.name())) {
                    throw new IllegalStateException("a sync out of order");
                }
                does(to, o.name());
                n++;
            }
        }
        return n + doesHeld(to);
    }

    boolean tell(int from, int to) {
        if (!ok(from) || !ok(to) || vec(to)[from] != made(from)) {
            return false;
        }
        if (from != to) {
            w.sites.get(to).knows.put(from, vec(from));
        }
        return true;
    }

    private Set<Integer> seen(int site) {
        Set<Integer> seen = new HashSet<>();
        for (int of = 0; of < w.sites.size(); of++) {
            int floor = floor(site, of);
            for (int number = 1; number <= floor; number++) {
                seen.add(100 * of + number);
            }
        }
        return seen;
    }

    private boolean canGo(int site, int place, Set<Integer> swept, Set<Integer> seen) {
        Place p = w.sites.get(site);
        if (place == 0 || !seen.contains(place)) {
            return false;
        }
        int element = w.ops.get(place).element();
        boolean dropped = false;
        for (int name : p.done) {
            Op o = w.ops.get(name);
            if (isPlace(o) && o.behind() == place && !swept.contains(name)) {
                return false;
            }
            dropped |= o.kind() == 2 && o.element() == element && seen.contains(name);
        }
        int at = placeOf(p.done, element);
        return dropped || at != place && seen.contains(at);
    }

    private Set<Integer> going(int site) {
        Place p = w.sites.get(site);
        Set<Integer> goes = new TreeSet<>();
        Set<Integer> seen = seen(site);
        boolean more = true;
        while (more) {
            more = false;
            Set<Integer> swept = new HashSet<>(p.swept);
            swept.addAll(goes);
            for (int place : order(p.done, swept)) {
                if (canGo(site, place, swept, seen)) {
                    goes.add(place);
                    more = true;
                }
            }
        }
        return goes;
    }

    int sweep(int site) {
        if (!ok(site)) {
            return NONE;
        }
        Set<Integer> goes = going(site);
        w.sites.get(site).swept.addAll(goes);
        return goes.size();
    }

    // ---- what is shown

    int length(int site) {
        return ok(site) ? list(site).size() : NONE;
    }

    int at(int site, int i, int what) {
        if (!ok(site) || i < 0 || i >= list(site).size() || what < 0 || what > 3) {
            throw new NoSuchElementException();
        }
        int element = list(site).get(i);
        Set<Integer> done = w.sites.get(site).done;
        if (what == 3) {
            int n = 0;
            for (int name : done) {
                Op o = w.ops.get(name);
                n += o.kind() == 1 && o.element() == element ? 1 : 0;
            }
            return n;
        }
        return what == 0 ? element : what == 1 ? letterOf(done, element) : placeOf(done, element);
    }

    int index(int site, int name) {
        return ok(site) ? list(site).indexOf(name) : NONE;
    }

    int vector(int site, int of) {
        return ok(site) && ok(of) ? vec(site)[of] : NONE;
    }

    int knows(int site, int of, int about) {
        if (!ok(site) || !ok(of) || !ok(about)) {
            return NONE;
        }
        return site == of ? vec(site)[about] : w.sites.get(site).knows.get(of)[about];
    }

    int floor(int site, int of) {
        if (!ok(site) || !ok(of)) {
            return NONE;
        }
        int least = vec(site)[of];
        for (int[] known : w.sites.get(site).knows.values()) {
            least = Math.min(least, known[of]);
        }
        return least;
    }

    private static int ith(List<Integer> row, int i) {
        return i == NONE ? row.size() : i < 0 || i >= row.size() ? NONE : row.get(i);
    }

    int post(int site, int row, int i) {
        if (!ok(site) || row < 0 || row > 1) {
            return NONE;
        }
        return ith(row == 0 ? w.sites.get(site).waiting : w.sites.get(site).held, i);
    }

    int op(int name, int what) {
        Op o = w.ops.get(name);
        if (o == null || what < 0 || what > 4) {
            return -2;
        }
        return new int[] {o.kind(), o.time(), o.element(), o.behind(), o.letter()}[what];
    }

    int needs(int name, int site) {
        return w.ops.containsKey(name) && ok(site) ? w.ops.get(name).needs()[site] : NONE;
    }

    int ahead(int one, int other) {
        Op a = w.ops.get(one);
        Op b = w.ops.get(other);
        if (a == null || b == null) {
            return NONE;
        }
        if (a == b) {
            return 3;
        }
        return needsSet(b).contains(one) ? 0 : needsSet(a).contains(other) ? 1 : 2;
    }

    int found(int name, int i) {
        Op o = w.ops.get(name);
        return o == null ? NONE : ith(list(needsSet(o), Set.of()), i);
    }

    int rivals(int name, int i) {
        Op o = w.ops.get(name);
        if (o == null) {
            return NONE;
        }
        List<Integer> row = new ArrayList<>();
        for (Op other : w.ops.values()) {
            if (other.element() == o.element() && ahead(name, other.name()) == 2) {
                row.add(other.name());
            }
        }
        Collections.sort(row);
        return ith(row, i);
    }

    boolean has(int site, int name) {
        return ok(site) && w.sites.get(site).done.contains(name);
    }

    private Set<Integer> notForgotten(int site) {
        Place p = w.sites.get(site);
        Set<Integer> elements = new TreeSet<>();
        List<Integer> order = order(p.done, p.swept);
        for (int name : p.done) {
            Op o = w.ops.get(name);
            if (o.kind() == 0) {
                boolean left = false;
                for (int place : order) {
                    left |= place != 0 && w.ops.get(place).element() == name;
                }
                if (left || !isGone(p.done, name)) {
                    elements.add(name);
                }
            }
        }
        return elements;
    }

    int count(int site, int what) {
        if (!ok(site)) {
            return NONE;
        }
        Place p = w.sites.get(site);
        int n = 0;
        switch (what) {
            case 0:
                return order(p.done, p.swept).size();
            case 1:
                return notForgotten(site).size();
            case 2:
                for (int element : notForgotten(site)) {
                    n += isGone(p.done, element) ? 1 : 0;
                }
                return n;
            case 3:
                return going(site).size();
            case 4:
                return p.clock;
            case 5:
                return made(site);
            case 6:
                Set<Integer> left = notForgotten(site);
                for (int name : p.done) {
                    Op o = w.ops.get(name);
                    n += o.kind() == 1 && left.contains(o.element())
                            && placeOf(p.done, o.element()) != name ? 1 : 0;
                }
                return n;
            case 7:
                for (int place : order(p.done, p.swept)) {
                    int depth = 0;
                    for (int at = place; at != 0; at = w.ops.get(at).behind()) {
                        depth++;
                    }
                    n = Math.max(n, depth);
                }
                return n;
            default:
                return NONE;
        }
    }

    int place(int site, int i) {
        if (!ok(site) || i < 0) {
            return NONE;
        }
        return ith(order(w.sites.get(site).done, w.sites.get(site).swept), i);
    }

    int unlike(int one, int other) {
        if (!ok(one) || !ok(other)) {
            return NONE;
        }
        List<Integer> a = list(one);
        List<Integer> b = list(other);
        int n = 0;
        for (int i = 0; i < Math.max(a.size(), b.size()); i++) {
            n += i >= a.size() || i >= b.size() || !a.get(i).equals(b.get(i)) ? 1 : 0;
        }
        return n;
    }

    int edits(int one, int other) {
        if (!ok(one) || !ok(other)) {
            return NONE;
        }
        List<Integer> a = list(one);
        List<Integer> b = list(other);
        int[][] least = new int[a.size() + 1][b.size() + 1];
        for (int i = 0; i <= a.size(); i++) {
            for (int j = 0; j <= b.size(); j++) {
                if (i == 0 || j == 0) {
                    least[i][j] = i + j;
                } else if (a.get(i - 1).equals(b.get(j - 1))) {
                    least[i][j] = least[i - 1][j - 1];
                } else {
                    least[i][j] = 1 + Math.min(least[i - 1][j], least[i][j - 1]);
                }
            }
        }
        return least[a.size()][b.size()];
    }

    int settled(int i, int what) {
        if (what < 0 || what > 1) {
            return NONE;
        }
        List<Integer> list = list(w.ops.keySet(), Set.of());
        int answer = ith(list, i);
        return what == 0 || answer == NONE || i == NONE ? answer : letterOf(w.ops.keySet(), answer);
    }

    // ---- the tape and the images

    int feed(int a, int b, int c, int d, int e) {
        if (tape.size() + 20 > 400) {
            return NONE;
        }
        for (int number : new int[] {a, b, c, d, e}) {
            for (int k = 3; k >= 0; k--) {
                tape.add(number >>> 8 * k & 255);
            }
        }
        return tape.size();
    }

    /** A token: what it is (w, n, ; or ?), where, and its text. */
    record Token(char kind, int place, String text) {
    }

    private static List<Token> tokens(List<Integer> bytes) {
        StringBuilder text = new StringBuilder();
        for (int b : bytes) {
            text.append((char) b);
        }
        List<Token> tokens = new ArrayList<>();
        java.util.regex.Matcher m = java.util.regex.Pattern
                .compile("([a-z]+)|([0-9]+)|(;)|([ \\n])|(.)", java.util.regex.Pattern.DOTALL)
                .matcher(text);
        while (m.find()) {
            if (m.group(4) == null) {
                char kind = m.group(1) != null ? 'w' : m.group(2) != null ? 'n'
                        : m.group(3) != null ? ';' : '?';
                tokens.add(new Token(kind, m.start(), m.group()));
            }
        }
        tokens.add(new Token('.', text.length(), ""));
        return tokens;
    }

    private static final Map<String, String> SHAPES = Map.ofEntries(Map.entry("insert", "nnl;"),
            Map.entry("move", "nnn;"), Map.entry("drop", "nn;"), Map.entry("change", "nnl;"),
            Map.entry("deliver", "nn;"), Map.entry("lose", "nn;"), Map.entry("twice", "nn;"),
            Map.entry("sync", "nn;"), Map.entry("tell", "nn;"), Map.entry("sweep", "n;"),
            Map.entry("all", ";"));

    private static int fault(Token t, int kind) {
        return -2 - (8 * t.place() + kind);
    }

    int script(int n) {
        if (n < 0 || n > tape.size()) {
            return NONE;
        }
        List<Token> tokens = tokens(tape.subList(0, n));
        tape.clear();
        List<List<Token>> deeds = new ArrayList<>();
        String want = "";
        for (Token t : tokens) {
            if (want.isEmpty()) {
                if (t.kind() == '.') {
                    break;
                }
                if (t.kind() != 'w' || !SHAPES.containsKey(t.text())) {
                    return fault(t, 1);
                }
                deeds.add(new ArrayList<>(List.of(t)));
                want = SHAPES.get(t.text());
                continue;
            }
            char due = want.charAt(0);
            want = want.substring(1);
            if (t.kind() != (due == 'l' ? 'w' : due)) {
                return fault(t, 1);
            }
            if (due == 'l' && t.text().length() > 1 || due == 'n' && t.text().length() > 3) {
                return fault(t, 2);
            }
            deeds.get(deeds.size() - 1).add(t);
        }
        for (int k = 0; k < deeds.size(); k++) {
            if (!doDeed(deeds.get(k))) {
                return k;
            }
        }
        return deeds.size();
    }

    private boolean doDeed(List<Token> deed) {
        int[] v = new int[3];
        for (int k = 1; k < deed.size() - 1; k++) {
            Token t = deed.get(k);
            v[k - 1] = t.kind() == 'n' ? Integer.parseInt(t.text()) : t.text().charAt(0) - 'a';
        }
        switch (deed.get(0).text()) {
            case "insert":
                return insert(v[0], v[1], v[2]) != NONE;
            case "move":
                return move(v[0], v[1], v[2]) != NONE;
            case "drop":
                return drop(v[0], v[1]) != NONE;
            case "change":
                return change(v[0], v[1], v[2]) != NONE;
            case "deliver":
                return deliver(v[0], v[1]) != NONE;
            case "lose":
                return lose(v[0], v[1]) != NONE;
            case "twice":
                return twice(v[0], v[1]) != NONE;
            case "sync":
                return sync(v[0], v[1]) != NONE;
            case "tell":
                return tell(v[0], v[1]);
            case "sweep":
                return sweep(v[0]) != NONE;
            default:
                for (int s = 0; s < w.sites.size(); s++) {
                    while (deliver(s, 0) != NONE) {
                        continue;
                    }
                }
                return true;
        }
    }

    boolean image(int i) {
        if (i < 0 || i > 1) {
            return false;
        }
        images.put(i, w.copy());
        return true;
    }

    boolean back(int i) {
        if (!images.containsKey(i)) {
            return false;
        }
        w = images.get(i).copy();
        return true;
    }

    int all(int what) {
        int n = 0;
        switch (what) {
            case 0:
                return w.sites.size();
            case 1:
                return w.ops.size();
            case 2:
                for (Place p : w.sites) {
                    n += p.waiting.size();
                }
                return n;
            case 3:
                for (Place p : w.sites) {
                    n += p.held.size();
                }
                return n;
            case 4:
                return w.lost;
            case 5:
                return tape.size();
            case 6:
                for (int s = 0; s < w.sites.size(); s++) {
                    if (!shown(s).equals(shown(0))) {
                        return 0;
                    }
                }
                return 1;
            case 7:
                for (int name : w.ops.keySet()) {
                    boolean everywhere = true;
                    for (Place p : w.sites) {
                        everywhere &= p.done.contains(name);
                    }
                    n += everywhere ? 0 : 1;
                }
                return n;
            default:
                return NONE;
        }
    }

    private List<Integer> shown(int site) {
        List<Integer> row = new ArrayList<>();
        for (int element : list(site)) {
            row.add(element);
            row.add(letterOf(w.sites.get(site).done, element));
        }
        return row;
    }
}
