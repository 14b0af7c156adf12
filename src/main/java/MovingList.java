import java.util.Arrays;
import java.util.NoSuchElementException;

/**
 * A group of sites, each with its own list of one text, whose letters are put in, moved, dropped
 * and changed at any site. The words used here (site, op, place, element, ...) are those of the
 * document.
 *
 * <p>Inside, an op stands for itself, for its place and for its element by one number, its slot:
 * 40 * site + number. Slot 0 is the head, which is no op; so 0 also says "no such op".
 */
public final class MovingList {
    public static final int NONE = -1;

    private static final int NO_SUCH_OP = -2;
    private static final int FEWEST_SITES = 2;
    private static final int FIRST_SITES = 3;
    private static final int MOST_SITES = 5;
    private static final int MOST_OPS = 40;
    private static final int SLOTS = MOST_SITES * MOST_OPS + 1;
    private static final int NAME_STEP = 100;
    private static final int STAMP_STEP = 8;
    private static final int HEAD = 0;
    private static final int NO_OP = 0;
    private static final int END = 0;
    private static final int ABSENT = -1;
    private static final int LETTERS = 26;
    private static final int MOST_WAITING = 60;
    private static final int MOST_CHANCES = 60;
    private static final int CHANCE_KINDS = 8;
    private static final int IMAGES = 2;
    private static final int TAPE_BYTES = 400;
    private static final int FEED_BYTES = 20;
    private static final int STEP_FIELDS = 4;

    private static final int OP_INSERT = 0;
    private static final int OP_MOVE = 1;
    private static final int OP_DROP = 2;
    private static final int OP_CHANGE = 3;

    private static final Deed[] DEEDS = Deed.values();

    private final Group group = new Group();
    private final Group[] images = new Group[IMAGES];
    private final boolean[] imaged = new boolean[IMAGES];
    private final Listing spare = new Listing();
    private final Broom broom = new Broom();
    private final Script reader = new Script();
    private final byte[] tape = new byte[TAPE_BYTES];
    private int taped;
    private int drawn;
    private final int[] rowOne = new int[SLOTS];
    private final int[] rowTwo = new int[SLOTS];
    private final int[] marks = new int[SLOTS];

    public MovingList() {
        group.clear(FIRST_SITES);
    }

    public boolean sites(int n) {
        if (n < FEWEST_SITES || n > MOST_SITES) {
            return false;
        }
        group.clear(n);
        for (int i = 0; i < IMAGES; i++) {
            imaged[i] = false;
        }
        return true;
    }

    // ---- acts at a site

    public int insert(int site, int i, int letter) {
        if (!group.isSite(site) || !isLetter(letter)) {
            return NONE;
        }
        int n = showList(site, rowOne);
        if (i < 0 || i > n) {
            return NONE;
        }
        int behind = i == 0 ? HEAD : spotOf(site, rowOne[i - 1]);
        return group.make(site, OP_INSERT, NO_OP, behind, letter);
    }

    public int move(int site, int i, int j) {
        if (!group.isSite(site)) {
            return NONE;
        }
        int n = showList(site, rowOne);
        if (i < 0 || i >= n || j < 0 || j >= n) {
            return NONE;
        }
        // The list without the moved one is the same list, but one index further from i on.
        int ahead = j - 1 < i ? j - 1 : j;
        int behind = j == 0 ? HEAD : spotOf(site, rowOne[ahead]);
        return group.make(site, OP_MOVE, rowOne[i], behind, NONE);
    }

    public int drop(int site, int i) {
        int element = elementAt(site, i);
        if (element == NO_OP) {
            return NONE;
        }
        return group.make(site, OP_DROP, element, NONE, NONE);
    }

    public int change(int site, int i, int letter) {
        int element = elementAt(site, i);
        if (element == NO_OP || !isLetter(letter)) {
            return NONE;
        }
        return group.make(site, OP_CHANGE, element, NONE, letter);
    }

    public int revert(int site) {
        if (!group.isSite(site)) {
            return NONE;
        }
        int last = group.log.lastOf(site);
        if (last == NO_OP) {
            return NONE;
        }
        int kind = group.log.kind[last];
        int element = group.log.element[last];
        if (kind != OP_DROP && !group.sites[site].listing.shows(element)) {
            return NONE;
        }
        showFound(last);
        int letter = spare.letterOf(group.log, element);
        switch (kind) {
            case OP_INSERT:
                return group.make(site, OP_DROP, element, NONE, NONE);
            case OP_MOVE:
                return group.make(site, OP_MOVE, element, placeFoundAhead(site, element), NONE);
            case OP_DROP:
                return group.make(site, OP_INSERT, NO_OP, placeFoundAhead(site, element), letter);
            default:
                return group.make(site, OP_CHANGE, element, NONE, letter);
        }
    }

    public int chance(int n, int seed) {
        if (n < 1 || n > MOST_CHANCES) {
            return NONE;
        }
        drawn = seed;
        int acts = 0;
        for (int k = 0; k < n; k++) {
            if (takeChance() != NONE) {
                acts++;
            }
        }
        return acts;
    }

    // ---- the post, and what sites know of one another

    public int deliver(int site, int i) {
        int slot = waitingAt(site, i);
        if (slot == NO_OP) {
            return NONE;
        }
        Site to = group.sites[site];
        to.waiting.removeAt(i);
        return to.receive(group.log, slot);
    }

    public int lose(int site, int i) {
        int slot = waitingAt(site, i);
        if (slot == NO_OP) {
            return NONE;
        }
        group.sites[site].waiting.removeAt(i);
        group.lost++;
        return nameOf(slot);
    }

    public int twice(int site, int i) {
        int slot = waitingAt(site, i);
        if (slot == NO_OP || !group.sites[site].waiting.add(slot)) {
            return NONE;
        }
        return nameOf(slot);
    }

    public int sync(int from, int to) {
        if (!group.isSite(from) || !group.isSite(to) || from == to) {
            return NONE;
        }
        return group.sites[to].catchUp(group.log, group.sites[from]);
    }

    public boolean tell(int from, int to) {
        if (!group.isSite(from) || !group.isSite(to)) {
            return false;
        }
        Site hearer = group.sites[to];
        if (hearer.vector[from] < group.log.made[from]) {
            return false;
        }
        hearer.learn(from, group.sites[from].vector);
        return true;
    }

    public int sweep(int site) {
        if (!group.isSite(site)) {
            return NONE;
        }
        int n = broom.choose(group, site);
        group.sites[site].listing.removePlaces(broom.goes);
        return n;
    }

    // ---- what a site shows and knows

    public int length(int site) {
        return group.isSite(site) ? showList(site, rowOne) : NONE;
    }

    public int at(int site, int i, int what) throws NoSuchElementException {
        int element = elementAt(site, i);
        if (element == NO_OP) {
            throw new NoSuchElementException("no element there");
        }
        Listing listing = group.sites[site].listing;
        switch (what) {
            case 0:
                return nameOf(element);
            case 1:
                return listing.letterOf(group.log, element);
            case 2:
                return nameOf(listing.spot[element]);
            case 3:
                return listing.moves[element];
            default:
                throw new NoSuchElementException("no such thing of an element");
        }
    }

    public int index(int site, int name) {
        int slot = group.log.slotOf(name);
        if (!group.isSite(site) || slot == NO_OP) {
            return NONE;
        }
        return find(slot, rowOne, showList(site, rowOne));
    }

    public int vector(int site, int of) {
        if (!group.isSite(site) || !group.isSite(of)) {
            return NONE;
        }
        return group.sites[site].vector[of];
    }

    public int knows(int site, int of, int about) {
        if (!group.isSite(site) || !group.isSite(of) || !group.isSite(about)) {
            return NONE;
        }
        Site knower = group.sites[site];
        return of == site ? knower.vector[about] : knower.known[of * MOST_SITES + about];
    }

    public int floor(int site, int of) {
        if (!group.isSite(site) || !group.isSite(of)) {
            return NONE;
        }
        return group.floorOf(site, of);
    }

    public int post(int site, int row, int i) {
        if (!group.isSite(site) || row < 0 || row > 1) {
            return NONE;
        }
        Row ops = row == 0 ? group.sites[site].waiting : group.sites[site].held;
        return nameInRow(ops.items, ops.size, i);
    }

    // ---- the ops

    public int op(int name, int what) {
        Log log = group.log;
        int slot = log.slotOf(name);
        if (slot == NO_OP) {
            return NO_SUCH_OP;
        }
        switch (what) {
            case 0:
                return log.kind[slot];
            case 1:
                return log.timeOf(slot);
            case 2:
                return nameOf(log.element[slot]);
            case 3:
                return log.behind[slot] == NONE ? NONE : nameOf(log.behind[slot]);
            case 4:
                return log.letter[slot];
            default:
                return NO_SUCH_OP;
        }
    }

    public int needs(int name, int site) {
        int slot = group.log.slotOf(name);
        if (slot == NO_OP || !group.isSite(site)) {
            return NONE;
        }
        return group.log.needed[slot * MOST_SITES + site];
    }

    public int ahead(int one, int other) {
        int first = group.log.slotOf(one);
        int second = group.log.slotOf(other);
        if (first == NO_OP || second == NO_OP) {
            return NONE;
        }
        if (first == second) {
            return 3;
        }
        if (group.log.isNeeded(first, second)) {
            return 0;
        }
        return group.log.isNeeded(second, first) ? 1 : 2;
    }

    public int found(int name, int i) {
        int slot = group.log.slotOf(name);
        if (slot == NO_OP) {
            return NONE;
        }
        showFound(slot);
        return nameInRow(rowOne, spare.elements(group.log, rowOne), i);
    }

    public int rivals(int name, int i) {
        int slot = group.log.slotOf(name);
        if (slot == NO_OP) {
            return NONE;
        }
        return nameInRow(rowOne, gatherRivals(slot, rowOne), i);
    }

    public boolean has(int site, int name) {
        return group.isSite(site) && group.sites[site].hasDone(group.log.slotOf(name));
    }

    // ---- what is there in all

    public int count(int site, int what) {
        if (!group.isSite(site)) {
            return NONE;
        }
        switch (what) {
            case 0:
                return group.sites[site].listing.places(rowOne);
            case 1:
                return countElements(group.sites[site], false);
            case 2:
                return countElements(group.sites[site], true);
            case 3:
                return broom.choose(group, site);
            case 4:
                return group.sites[site].clock;
            case 5:
                return group.log.made[site];
            case 6:
                return countPastMoves(group.sites[site]);
            case 7:
                return deepest(group.sites[site].listing);
            default:
                return NONE;
        }
    }

    public int place(int site, int i) {
        if (!group.isSite(site)) {
            return NONE;
        }
        int n = group.sites[site].listing.places(rowOne);
        return i < 0 || i >= n ? NONE : nameOf(rowOne[i]);
    }

    public int unlike(int one, int other) {
        if (!group.isSite(one) || !group.isSite(other)) {
            return NONE;
        }
        int n = showList(one, rowOne);
        int m = showList(other, rowTwo);
        int differing = Math.max(n, m) - Math.min(n, m);
        for (int i = 0; i < n && i < m; i++) {
            if (rowOne[i] != rowTwo[i]) {
                differing++;
            }
        }
        return differing;
    }

    public int edits(int one, int other) {
        if (!group.isSite(one) || !group.isSite(other)) {
            return NONE;
        }
        int n = showList(one, rowOne);
        int m = showList(other, rowTwo);
        return n + m - 2 * longestCommon(n, m);
    }

    public int settled(int i, int what) {
        if (what < 0 || what > 1) {
            return NONE;
        }
        spare.build(group.log, group.log.made, 0);
        int n = spare.elements(group.log, rowOne);
        if (what == 0 || i < 0 || i >= n) {
            return nameInRow(rowOne, n, i);
        }
        return spare.letterOf(group.log, rowOne[i]);
    }

    public int all(int what) {
        switch (what) {
            case 0:
                return group.log.sites;
            case 1:
                return group.log.total;
            case 2:
                return countWaiting();
            case 3:
                return countHeld();
            case 4:
                return group.lost;
            case 5:
                return taped;
            case 6:
                return allShowOneList() ? 1 : 0;
            case 7:
                return countUnfinished();
            default:
                return NONE;
        }
    }

    // ---- the tape and the images

    public int feed(int a, int b, int c, int d, int e) {
        if (taped + FEED_BYTES > TAPE_BYTES) {
            return NONE;
        }
        feedNumber(a);
        feedNumber(b);
        feedNumber(c);
        feedNumber(d);
        feedNumber(e);
        return taped;
    }

    public int script(int n) {
        if (n < 0 || n > taped) {
            return NONE;
        }
        taped = 0;
        if (!reader.read(tape, n)) {
            return -2 - reader.fault;
        }
        for (int k = 0; k < reader.deeds; k++) {
            if (!doDeed(k * STEP_FIELDS)) {
                return k;
            }
        }
        return reader.deeds;
    }

    public boolean image(int i) {
        if (i < 0 || i >= IMAGES) {
            return false;
        }
        if (images[i] == null) {
            images[i] = new Group();
        }
        images[i].copy(group);
        imaged[i] = true;
        return true;
    }

    public boolean back(int i) {
        if (i < 0 || i >= IMAGES || !imaged[i] || images[i] == null) {
            return false;
        }
        group.copy(images[i]);
        return true;
    }

    // ---- helpers of the face

    private static boolean isLetter(int letter) {
        return letter >= 0 && letter < LETTERS;
    }

    private static int siteOf(int slot) {
        return (slot - 1) / MOST_OPS;
    }

    private static int numberOf(int slot) {
        return slot == HEAD ? 0 : (slot - 1) % MOST_OPS + 1;
    }

    private static int nameOf(int slot) {
        return siteOf(slot) * NAME_STEP + numberOf(slot);
    }

    /** Answers as post, found, rivals and settled do: how many for NONE, else the i-th name. */
    private static int nameInRow(int[] row, int n, int i) {
        if (i == NONE) {
            return n;
        }
        return i < 0 || i >= n ? NONE : nameOf(row[i]);
    }

    private static int find(int slot, int[] row, int n) {
        for (int i = 0; i < n; i++) {
            if (row[i] == slot) {
                return i;
            }
        }
        return NONE;
    }

    private int showList(int site, int[] into) {
        return group.sites[site].listing.elements(group.log, into);
    }

    private int spotOf(int site, int element) {
        return group.sites[site].listing.spot[element];
    }

    private int elementAt(int site, int i) {
        if (!group.isSite(site)) {
            return NO_OP;
        }
        int n = showList(site, rowOne);
        return i < 0 || i >= n ? NO_OP : rowOne[i];
    }

    private int waitingAt(int site, int i) {
        if (!group.isSite(site)) {
            return NO_OP;
        }
        Row waiting = group.sites[site].waiting;
        return i < 0 || i >= waiting.size ? NO_OP : waiting.items[i];
    }

    private void showFound(int slot) {
        spare.build(group.log, group.log.needed, slot * MOST_SITES);
    }

    /** The place where a site now has what was right ahead of an element in the list of spare. */
    private int placeFoundAhead(int site, int element) {
        int own = find(element, rowOne, spare.elements(group.log, rowOne));
        if (own < 1) {
            return HEAD;
        }
        int ahead = rowOne[own - 1];
        return group.sites[site].listing.shows(ahead) ? spotOf(site, ahead) : HEAD;
    }

    private int draw(int m) {
        drawn = drawn * 1103515245 + 12345;
        return m < 1 ? 0 : (drawn >>> 8) % m;
    }

    private int takeChance() {
        int site = draw(group.log.sites);
        int kind = draw(CHANCE_KINDS);
        int n = kind == 6 ? group.sites[site].waiting.size : showList(site, rowOne);
        if (kind == 7) {
            return sync(draw(group.log.sites), site);
        }
        if (kind < 3) {
            int i = draw(n + 1);
            return insert(site, i, draw(LETTERS));
        }
        if (n == 0) {
            return NONE;
        }
        int i = draw(n);
        switch (kind) {
            case 3:
                return move(site, i, draw(n));
            case 4:
                return drop(site, i);
            case 5:
                return change(site, i, draw(LETTERS));
            default:
                return deliver(site, i);
        }
    }

    private int gatherRivals(int slot, int[] into) {
        Log log = group.log;
        int n = 0;
        for (int other = 1; other < SLOTS; other++) {
            if (other != slot && log.isMade(other) && log.element[other] == log.element[slot]
                    && !log.isNeeded(other, slot) && !log.isNeeded(slot, other)) {
                into[n] = other;
                n++;
            }
        }
        return n;
    }

    /** Marks 1 for each element of a site that is not forgotten: shown, or one place is left. */
    private void markUnforgotten(Site site) {
        Log log = group.log;
        Arrays.fill(marks, 0);
        for (int k = 0; k < log.total; k++) {
            int slot = log.byTime[k];
            int element = log.element[slot];
            if (site.listing.isThere(slot) || site.listing.shows(element)) {
                marks[element] = 1;
            }
        }
    }

    private int countElements(Site site, boolean goneOnly) {
        markUnforgotten(site);
        int n = 0;
        for (int element = 1; element < SLOTS; element++) {
            if (marks[element] == 1 && (!goneOnly || site.listing.gone[element] == 1)) {
                n++;
            }
        }
        return n;
    }

    private int countPastMoves(Site site) {
        Log log = group.log;
        markUnforgotten(site);
        int n = 0;
        for (int k = 0; k < log.total; k++) {
            int slot = log.byTime[k];
            int element = log.element[slot];
            if (log.kind[slot] == OP_MOVE && site.hasDone(slot) && marks[element] == 1
                    && site.listing.spot[element] != slot) {
                n++;
            }
        }
        return n;
    }

    private int deepest(Listing listing) {
        Log log = group.log;
        Arrays.fill(marks, 0);
        int most = 0;
        // By time each place comes behind the one that it was told behind.
        for (int k = 0; k < log.total; k++) {
            int slot = log.byTime[k];
            if (listing.isThere(slot)) {
                marks[slot] = marks[log.behind[slot]] + 1;
                most = Math.max(most, marks[slot]);
            }
        }
        return most;
    }

    /**
     * The length of the longest row common to rowOne (n) and rowTwo (m): no element is twice in a
     * list, so it is the longest rising row of the indexes in rowTwo. rowTwo is used up by it.
     */
    private int longestCommon(int n, int m) {
        Arrays.fill(marks, 0);
        for (int j = 0; j < m; j++) {
            marks[rowTwo[j]] = j + 1;
        }
        int longest = 0;
        for (int i = 0; i < n; i++) {
            int index = marks[rowOne[i]];
            if (index > 0) {
                int k = 0;
                while (k < longest && rowTwo[k] < index) {
                    k++;
                }
                rowTwo[k] = index;
                longest = Math.max(longest, k + 1);
            }
        }
        return longest;
    }

    private int countWaiting() {
        int n = 0;
        for (int s = 0; s < group.log.sites; s++) {
            n += group.sites[s].waiting.size;
        }
        return n;
    }

    private int countHeld() {
        int n = 0;
        for (int s = 0; s < group.log.sites; s++) {
            n += group.sites[s].held.size;
        }
        return n;
    }

    private int countUnfinished() {
        int n = 0;
        for (int of = 0; of < group.log.sites; of++) {
            int least = group.log.made[of];
            for (int s = 0; s < group.log.sites; s++) {
                least = Math.min(least, group.sites[s].vector[of]);
            }
            n += group.log.made[of] - least;
        }
        return n;
    }

    private boolean allShowOneList() {
        int n = showList(0, rowOne);
        for (int s = 1; s < group.log.sites; s++) {
            if (showList(s, rowTwo) != n || !showsSame(s, n)) {
                return false;
            }
        }
        return true;
    }

    /** Whether the list of a site, in rowTwo, is that of site 0, in rowOne. */
    private boolean showsSame(int site, int n) {
        Listing first = group.sites[0].listing;
        Listing second = group.sites[site].listing;
        for (int i = 0; i < n; i++) {
            int element = rowOne[i];
            if (element != rowTwo[i]
                    || first.letterOf(group.log, element) != second.letterOf(group.log, element)) {
                return false;
            }
        }
        return true;
    }

    private void feedNumber(int number) {
        for (int shift = 24; shift >= 0 && taped < TAPE_BYTES; shift -= 8) {
            tape[taped] = (byte) (number >> shift);
            taped++;
        }
    }

    private boolean doDeed(int step) {
        int a = reader.steps[step + 1];
        int b = reader.steps[step + 2];
        int c = reader.steps[step + 3];
        switch (DEEDS[reader.steps[step]]) {
            case INSERT:
                return insert(a, b, c) != NONE;
            case MOVE:
                return move(a, b, c) != NONE;
            case DROP:
                return drop(a, b) != NONE;
            case CHANGE:
                return change(a, b, c) != NONE;
            case DELIVER:
                return deliver(a, b) != NONE;
            case LOSE:
                return lose(a, b) != NONE;
            case TWICE:
                return twice(a, b) != NONE;
            case SYNC:
                return sync(a, b) != NONE;
            case TELL:
                return tell(a, b);
            case SWEEP:
                return sweep(a) != NONE;
            default:
                deliverAll();
                return true;
        }
    }

    private void deliverAll() {
        for (int s = 0; s < group.log.sites; s++) {
            Site site = group.sites[s];
            // A delivery makes no op, so what waits at the start is all that can wait.
            for (int k = site.waiting.size; k > 0; k--) {
                int slot = site.waiting.items[0];
                site.waiting.removeAt(0);
                site.receive(group.log, slot);
            }
        }
    }

    /** All of the group: what an image keeps. */
    private static final class Group {
        final Log log = new Log();
        final Site[] sites = new Site[MOST_SITES];
        int lost;

        Group() {
            for (int s = 0; s < MOST_SITES; s++) {
                sites[s] = new Site();
            }
        }

        void clear(int n) {
            log.clear(n);
            lost = 0;
            for (int s = 0; s < MOST_SITES; s++) {
                sites[s].clear();
            }
        }

        void copy(Group from) {
            log.copy(from.log);
            lost = from.lost;
            for (int s = 0; s < MOST_SITES; s++) {
                sites[s].copy(from.sites[s]);
            }
        }

        boolean isSite(int s) {
            return s >= 0 && s < log.sites;
        }

        /** An op is made at a site, done there and posted to others: its name, NONE beyond 40. */
        int make(int s, int kind, int element, int behind, int letter) {
            Site maker = sites[s];
            int slot = log.open(s, maker.clock + 1, maker.vector);
            if (slot == NO_OP) {
                return NONE;
            }
            log.kind[slot] = kind;
            log.element[slot] = kind == OP_INSERT ? slot : element;
            log.behind[slot] = behind;
            log.letter[slot] = letter;
            maker.perform(log, slot);
            for (int t = 0; t < log.sites; t++) {
                if (t != s && !sites[t].waiting.add(slot)) {
                    lost++;
                }
            }
            return nameOf(slot);
        }

        int floorOf(int s, int about) {
            int least = sites[s].vector[about];
            for (int t = 0; t < log.sites; t++) {
                if (t != s) {
                    least = Math.min(least, sites[s].known[t * MOST_SITES + about]);
                }
            }
            return least;
        }
    }

    /** All ops that were made at any site, by slot. */
    private static final class Log {
        final int[] made = new int[MOST_SITES];
        final int[] kind = new int[SLOTS];
        // Time and site in one number: the greater stamp is that of the later op.
        final int[] stamp = new int[SLOTS];
        final int[] element = new int[SLOTS];
        final int[] behind = new int[SLOTS];
        final int[] letter = new int[SLOTS];
        final int[] needed = new int[SLOTS * MOST_SITES];
        final int[] byTime = new int[SLOTS];
        int sites;
        int total;

        void clear(int n) {
            sites = n;
            total = 0;
            Arrays.fill(made, 0);
        }

        void copy(Log from) {
            sites = from.sites;
            total = from.total;
            System.arraycopy(from.made, 0, made, 0, MOST_SITES);
            System.arraycopy(from.kind, 0, kind, 0, SLOTS);
            System.arraycopy(from.stamp, 0, stamp, 0, SLOTS);
            System.arraycopy(from.element, 0, element, 0, SLOTS);
            System.arraycopy(from.behind, 0, behind, 0, SLOTS);
            System.arraycopy(from.letter, 0, letter, 0, SLOTS);
            System.arraycopy(from.needed, 0, needed, 0, SLOTS * MOST_SITES);
            System.arraycopy(from.byTime, 0, byTime, 0, SLOTS);
        }

        /** The slot of an op that was made; NO_OP for any other name. */
        int slotOf(int name) {
            if (name <= 0) {
                return NO_OP;
            }
            int site = name / NAME_STEP;
            int number = name % NAME_STEP;
            if (site >= sites || number < 1 || number > made[site]) {
                return NO_OP;
            }
            return site * MOST_OPS + number;
        }

        int lastOf(int site) {
            return made[site] == 0 ? NO_OP : site * MOST_OPS + made[site];
        }

        boolean isMade(int slot) {
            return numberOf(slot) <= made[siteOf(slot)];
        }

        int timeOf(int slot) {
            return stamp[slot] / STAMP_STEP;
        }

        boolean isNeeded(int slot, int by) {
            return numberOf(slot) <= needed[by * MOST_SITES + siteOf(slot)];
        }

        /** The slot of a site's next op, its needs and time written down; NO_OP if it made 40. */
        int open(int site, int time, int[] vector) {
            if (made[site] >= MOST_OPS || total >= SLOTS) {
                return NO_OP;
            }
            made[site]++;
            int slot = site * MOST_OPS + made[site];
            System.arraycopy(vector, 0, needed, slot * MOST_SITES, MOST_SITES);
            stamp[slot] = time * STAMP_STEP + site;
            int k = total;
            for (; k > 0 && stamp[byTime[k - 1]] > stamp[slot]; k--) {
                byTime[k] = byTime[k - 1];
            }
            byTime[k] = slot;
            total++;
            return slot;
        }
    }

    private static final class Site {
        final int[] vector = new int[MOST_SITES];
        final int[] known = new int[MOST_SITES * MOST_SITES];
        final Row waiting = new Row(MOST_WAITING);
        // An op is held once at most, so this row never fills.
        final Row held = new Row(SLOTS);
        final Listing listing = new Listing();
        int clock;

        void clear() {
            Arrays.fill(vector, 0);
            Arrays.fill(known, 0);
            waiting.size = 0;
            held.size = 0;
            listing.clear();
            clock = 0;
        }

        void copy(Site from) {
            System.arraycopy(from.vector, 0, vector, 0, MOST_SITES);
            System.arraycopy(from.known, 0, known, 0, MOST_SITES * MOST_SITES);
            waiting.copy(from.waiting);
            held.copy(from.held);
            listing.copy(from.listing);
            clock = from.clock;
        }

        boolean hasDone(int slot) {
            return slot != NO_OP && numberOf(slot) <= vector[siteOf(slot)];
        }

        void learn(int of, int[] theirs) {
            System.arraycopy(theirs, 0, known, of * MOST_SITES, MOST_SITES);
        }

        void perform(Log log, int slot) {
            vector[siteOf(slot)]++;
            clock = Math.max(clock, log.timeOf(slot));
            listing.take(log, slot);
        }

        boolean isReady(Log log, int slot) {
            for (int s = 0; s < MOST_SITES; s++) {
                if (vector[s] < log.needed[slot * MOST_SITES + s]) {
                    return false;
                }
            }
            return true;
        }

        /** An op of the post is delivered here: how many ops were done by it. */
        int receive(Log log, int slot) {
            if (hasDone(slot) || find(slot, held.items, held.size) != NONE) {
                return 0;
            }
            if (!isReady(log, slot)) {
                held.add(slot);
                return 0;
            }
            perform(log, slot);
            return 1 + performHeld(log);
        }

        /** All that another site has done is done here too: how many ops were done by it. */
        int catchUp(Log log, Site from) {
            int done = 0;
            for (int k = 0; k < log.total; k++) {
                int slot = log.byTime[k];
                if (from.hasDone(slot) && !hasDone(slot)) {
                    held.removeAt(find(slot, held.items, held.size));
                    perform(log, slot);
                    done++;
                }
            }
            return done + performHeld(log);
        }

        /** Does the first held op that can be, on and on: how many. */
        int performHeld(Log log) {
            int most = held.size;
            for (int done = 0; done < most; done++) {
                int k = firstReady(log);
                if (k == NONE) {
                    return done;
                }
                int slot = held.items[k];
                held.removeAt(k);
                perform(log, slot);
            }
            return most;
        }

        int firstReady(Log log) {
            for (int k = 0; k < held.size; k++) {
                if (isReady(log, held.items[k])) {
                    return k;
                }
            }
            return NONE;
        }
    }

    /** A row of slots with an end. */
    private static final class Row {
        final int[] items;
        int size;

        Row(int most) {
            items = new int[most];
        }

        void copy(Row from) {
            System.arraycopy(from.items, 0, items, 0, Math.min(from.items.length, items.length));
            size = from.size;
        }

        boolean add(int slot) {
            if (size >= items.length) {
                return false;
            }
            items[size] = slot;
            size++;
            return true;
        }

        void removeAt(int i) {
            if (i >= 0 && i < size) {
                System.arraycopy(items, i + 1, items, i, size - i - 1);
                size--;
            }
        }
    }

    /** Places in order, and what is known of elements, by the ops that were done. */
    private static final class Listing {
        // Behind each place the next one in order, or END; ABSENT where no place is.
        final int[] next = new int[SLOTS];
        // Of each element the op that put it where it is; NO_OP of one that was not put in.
        final int[] spot = new int[SLOTS];
        final int[] lettered = new int[SLOTS];
        final int[] gone = new int[SLOTS];
        final int[] moves = new int[SLOTS];

        void clear() {
            Arrays.fill(next, ABSENT);
            next[HEAD] = END;
            Arrays.fill(spot, NO_OP);
            Arrays.fill(lettered, NO_OP);
            Arrays.fill(gone, 0);
            Arrays.fill(moves, 0);
        }

        void copy(Listing from) {
            System.arraycopy(from.next, 0, next, 0, SLOTS);
            System.arraycopy(from.spot, 0, spot, 0, SLOTS);
            System.arraycopy(from.lettered, 0, lettered, 0, SLOTS);
            System.arraycopy(from.gone, 0, gone, 0, SLOTS);
            System.arraycopy(from.moves, 0, moves, 0, SLOTS);
        }

        /** As if just the ops up to some numbers were done, for each site one from start on. */
        void build(Log log, int[] limits, int start) {
            clear();
            for (int k = 0; k < log.total; k++) {
                int slot = log.byTime[k];
                if (numberOf(slot) <= limits[start + siteOf(slot)]) {
                    take(log, slot);
                }
            }
        }

        void take(Log log, int slot) {
            int element = log.element[slot];
            switch (log.kind[slot]) {
                case OP_INSERT:
                    spot[element] = slot;
                    lettered[element] = slot;
                    link(log, slot);
                    break;
                case OP_MOVE:
                    moves[element]++;
                    if (log.stamp[slot] > log.stamp[spot[element]]) {
                        spot[element] = slot;
                    }
                    link(log, slot);
                    break;
                case OP_DROP:
                    gone[element] = 1;
                    break;
                default:
                    if (log.stamp[slot] > log.stamp[lettered[element]]) {
                        lettered[element] = slot;
                    }
                    break;
            }
        }

        /**
         * Puts a place right behind the one that it was told behind, past all later ones: these are
         * told behind the same one, or behind such in turn, as what is told behind a place is later
         * than that.
         */
        private void link(Log log, int slot) {
            int ahead = log.behind[slot];
            for (int k = 0; k < SLOTS && next[ahead] > END
                    && log.stamp[next[ahead]] > log.stamp[slot]; k++) {
                ahead = next[ahead];
            }
            next[slot] = next[ahead];
            next[ahead] = slot;
        }

        boolean isThere(int place) {
            return next[place] != ABSENT;
        }

        boolean shows(int element) {
            return spot[element] != NO_OP && gone[element] == 0;
        }

        int letterOf(Log log, int element) {
            return log.letter[lettered[element]];
        }

        int places(int[] into) {
            into[0] = HEAD;
            int n = 1;
            for (int place = next[HEAD]; place > END && n < SLOTS; place = next[place]) {
                into[n] = place;
                n++;
            }
            return n;
        }

        int elements(Log log, int[] into) {
            int n = 0;
            int place = next[HEAD];
            for (int k = 1; place > END && k < SLOTS; k++) {
                int element = log.element[place];
                if (spot[element] == place && gone[element] == 0) {
                    into[n] = element;
                    n++;
                }
                place = next[place];
            }
            return n;
        }

        void removePlaces(int[] goes) {
            int ahead = HEAD;
            for (int k = 1; next[ahead] > END && k < SLOTS; k++) {
                int place = next[ahead];
                if (goes[place] == 1) {
                    next[ahead] = next[place];
                    next[place] = ABSENT;
                } else {
                    ahead = place;
                }
            }
        }
    }

    /** Finds the places that a sweep lets go. */
    private static final class Broom {
        final int[] floors = new int[MOST_SITES];
        final int[] dropped = new int[SLOTS];
        final int[] kept = new int[SLOTS];
        final int[] goes = new int[SLOTS];

        /** Marks 1 in goes for each place of a site that can go: how many. */
        int choose(Group group, int s) {
            Log log = group.log;
            Listing listing = group.sites[s].listing;
            prepare(group, s);
            int n = 0;
            // From the latest on: what was told behind a place is looked at ahead of it.
            for (int k = log.total - 1; k >= 0; k--) {
                int place = log.byTime[k];
                if (listing.isThere(place)) {
                    if (kept[place] == 0 && canGo(log, listing, place)) {
                        goes[place] = 1;
                        n++;
                    } else {
                        kept[log.behind[place]] = 1;
                    }
                }
            }
            return n;
        }

        private void prepare(Group group, int s) {
            Log log = group.log;
            Arrays.fill(dropped, 0);
            Arrays.fill(kept, 0);
            Arrays.fill(goes, 0);
            for (int of = 0; of < log.sites; of++) {
                floors[of] = group.floorOf(s, of);
            }
            for (int k = 0; k < log.total; k++) {
                int slot = log.byTime[k];
                if (log.kind[slot] == OP_DROP && isSeen(slot)) {
                    dropped[log.element[slot]] = 1;
                }
            }
        }

        private boolean isSeen(int slot) {
            return numberOf(slot) <= floors[siteOf(slot)];
        }

        private boolean canGo(Log log, Listing listing, int place) {
            int element = log.element[place];
            int spot = listing.spot[element];
            return isSeen(place) && (dropped[element] == 1 || spot != place && isSeen(spot));
        }
    }

    /** The deeds of a script: the word, how many numbers come behind it, whether a letter does. */
    private enum Deed {
        INSERT("insert", 2, true),
        MOVE("move", 3, false),
        DROP("drop", 2, false),
        CHANGE("change", 2, true),
        DELIVER("deliver", 2, false),
        LOSE("lose", 2, false),
        TWICE("twice", 2, false),
        SYNC("sync", 2, false),
        TELL("tell", 2, false),
        SWEEP("sweep", 1, false),
        ALL("all", 0, false);

        final String word;
        final int numbers;
        final boolean letter;

        Deed(String word, int numbers, boolean letter) {
            this.word = word;
            this.numbers = numbers;
            this.letter = letter;
        }
    }

    /** Reads a script into steps: of each deed its index in DEEDS and three values. */
    private static final class Script {
        private static final int MISPLACED = 1;
        private static final int TOO_LONG = 2;
        private static final int MOST_DIGITS = 3;

        // The shortest deed, all;, has as many bytes as a step has fields.
        final int[] steps = new int[TAPE_BYTES];
        int deeds;
        int fault;
        private byte[] text;
        private int end;
        private int at;

        Script() {
            text = new byte[0];
        }

        /** Whether the first n bytes are a script; if not, fault is 8 * place + kind. */
        boolean read(byte[] bytes, int n) {
            text = bytes;
            end = Math.min(n, bytes.length);
            at = 0;
            deeds = 0;
            skipBlanks();
            // A deed takes bytes, so there are never more of them than bytes.
            for (int k = 0; k < end && at < end; k++) {
                if (!readDeed()) {
                    return false;
                }
                skipBlanks();
            }
            return true;
        }

        private boolean readDeed() {
            int start = at;
            skipWord();
            int deed = deedOf(start);
            int step = deeds * STEP_FIELDS;
            if (deed == NONE || step + STEP_FIELDS > steps.length) {
                return fail(start, MISPLACED);
            }
            steps[step] = deed;
            int values = DEEDS[deed].numbers;
            for (int k = 1; k <= values; k++) {
                if (!readNumber(step + k)) {
                    return false;
                }
            }
            if (DEEDS[deed].letter && !readLetter(step + values + 1)) {
                return false;
            }
            skipBlanks();
            if (byteAt(at) != ';') {
                return fail(at, MISPLACED);
            }
            at++;
            deeds++;
            return true;
        }

        private boolean readNumber(int field) {
            skipBlanks();
            int start = at;
            int value = 0;
            while (at < end && isDigit(byteAt(at))) {
                value = value * 10 + (byteAt(at) - '0');
                at++;
            }
            if (at == start) {
                return fail(start, MISPLACED);
            }
            if (at - start > MOST_DIGITS) {
                return fail(start, TOO_LONG);
            }
            steps[field] = value;
            return true;
        }

        private boolean readLetter(int field) {
            skipBlanks();
            int start = at;
            skipWord();
            if (at == start) {
                return fail(start, MISPLACED);
            }
            if (at - start > 1) {
                return fail(start, TOO_LONG);
            }
            steps[field] = byteAt(start) - 'a';
            return true;
        }

        private int deedOf(int start) {
            for (int d = 0; d < DEEDS.length; d++) {
                if (isWord(DEEDS[d].word, start)) {
                    return d;
                }
            }
            return NONE;
        }

        /** Whether the bytes from start to where the reading is are a word. */
        private boolean isWord(String word, int start) {
            if (at - start != word.length()) {
                return false;
            }
            for (int k = 0; k < word.length(); k++) {
                if (byteAt(start + k) != word.charAt(k)) {
                    return false;
                }
            }
            return true;
        }

        private void skipBlanks() {
            while (at < end && (byteAt(at) == ' ' || byteAt(at) == '\n')) {
                at++;
            }
        }

        private void skipWord() {
            while (at < end && isSmallLetter(byteAt(at))) {
                at++;
            }
        }

        /** NONE at the end, where no token goes on. */
        private int byteAt(int place) {
            return place < 0 || place >= end ? NONE : text[place] & 255;
        }

        private static boolean isDigit(int sign) {
            return sign >= '0' && sign <= '9';
        }

        private static boolean isSmallLetter(int sign) {
            return sign >= 'a' && sign <= 'z';
        }

        private boolean fail(int place, int kind) {
            fault = 8 * place + kind;
            return false;
        }
    }
}
