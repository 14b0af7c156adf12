/**
 * The sentences of "What it is" and of the first part of "Terms" that name a boundary case, each
 * with a test of its own: just inside, just outside, and what later calls show.
 */
public final class TermsEdgeTest {
    private static final int LOW = Integer.MIN_VALUE;
    private static final int HIGH = Integer.MAX_VALUE;

    private final Check c = new Check();

    public static void main(String[] args) {
        TermsEdgeTest t = new TermsEdgeTest();
        t.callsUpTo512();
        t.sitesTwoToFive();
        t.sitesNumberedFromZero();
        t.fortyOps();
        t.fortyOpsAreRefusedToChanceAndScript();
        t.fortyOpsOfEachSite();
        t.names();
        t.vectorFromTheFirstOn();
        t.clockAndTime();
        t.refusedTakesNoTime();
        t.clockOfOthers();
        t.clockOfHeldAndOld();
        t.needsAheadOfIt();
        t.doneAtOnce();
        t.laterPlaces();
        t.latestOfMoves();
        t.olderMoveThatComesLast();
        t.latestOfChanges();
        t.oneDrop();
        t.headAndPlaces();
        t.orderBehindEachPlace();
        t.orderOfLikeTimes();
        t.listOnceAndNotGone();
        t.letters();
        t.insertIndex();
        t.insertIntoEmpty();
        t.moveEachToEach();
        t.moveBeyond();
        t.moveOfTheOnlyOne();
        t.c.end();
    }

    // ---- "What it is"

    /** "An object is used for at most 512 calls": the last of these still answers as is due. */
    private void callsUpTo512() {
        MovingList x = new MovingList();
        x.sites(5);
        int calls = 1;
        for (int s = 0; s < 5; s++) {
            for (int k = 1; k <= 40; k++) {
                c.due("an insert of 200", 100 * s + k, x.insert(s, k - 1, k % 26));
                calls++;
            }
        }
        for (int s = 1; s < 5; s++) {
            c.due("40 more", 40, x.sync(s, 0));
            calls++;
        }
        for (int s = 1; s < 5; s++) {
            c.due("all of the others", 160, x.sync(0, s));
            calls++;
        }
        for (; calls < 508; calls++) {
            x.chance(60, calls);
        }
        c.due("call 509", true, x.image(1));
        c.due("call 510", 0, x.edits(0, 4));
        c.due("call 511", 200, x.settled(-1, 0));
        c.due("call 512", 1, x.all(6));
    }

    // ---- sites

    /** A group whose sites made one insert each and have done all. */
    private static MovingList groupOf(int n) {
        MovingList x = new MovingList();
        x.sites(n);
        for (int s = 0; s < n; s++) {
            x.insert(s, 0, s);
        }
        Check.syncAll(x);
        return x;
    }

    /** "SITES 2 to 5 (3 at first)." */
    private void sitesTwoToFive() {
        c.due("three at first", 3, new MovingList().all(0));
        for (int n = 2; n <= 5; n++) {
            MovingList x = groupOf(3);
            c.due("sites(" + n + ")", true, x.sites(n));
            c.due("sites", n, x.all(0));
            c.due("all is as at first", 0, x.all(1));
        }
        for (int n : new int[] {1, 6, 0, -1, -2, -5, 100, LOW, HIGH}) {
            c.refused("sites(" + n + ")", 0, () -> groupOf(3), x -> x.sites(n) ? 1 : 0);
            c.refused("sites(" + n + ")", 0, () -> groupOf(2), x -> x.sites(n) ? 1 : 0);
        }
        MovingList y = groupOf(3);
        y.image(0);
        c.due("refused", false, y.sites(6));
        c.due("an image stays where it is refused", true, y.back(0));
    }

    /** Calls with one site among the arguments; NONE for what is refused. */
    private static final SiteCall[] OF_SITE = {
        new SiteCall("insert", (x, s) -> x.insert(s, 0, 0)),
        new SiteCall("move", (x, s) -> x.move(s, 0, 0)),
        new SiteCall("drop", (x, s) -> x.drop(s, 0)),
        new SiteCall("change", (x, s) -> x.change(s, 0, 0)),
        new SiteCall("revert", MovingList::revert),
        new SiteCall("deliver", (x, s) -> x.deliver(s, 0)),
        new SiteCall("lose", (x, s) -> x.lose(s, 0)),
        new SiteCall("twice", (x, s) -> x.twice(s, 0)),
        new SiteCall("sync from", (x, s) -> x.sync(s, s == 0 ? 1 : 0)),
        new SiteCall("sync to", (x, s) -> x.sync(s == 0 ? 1 : 0, s)),
        new SiteCall("tell from", (x, s) -> x.tell(s, s == 0 ? 1 : 0) ? 1 : -1),
        new SiteCall("tell to", (x, s) -> x.tell(s == 0 ? 1 : 0, s) ? 1 : -1),
        new SiteCall("sweep", MovingList::sweep),
        new SiteCall("length", MovingList::length),
        new SiteCall("at", (x, s) -> Check.at(x, s, 0, 0)),
        new SiteCall("index", (x, s) -> x.index(s, 1)),
        new SiteCall("vector", (x, s) -> x.vector(s, 0)),
        new SiteCall("vector of", (x, s) -> x.vector(0, s)),
        new SiteCall("knows", (x, s) -> x.knows(s, 0, 0)),
        new SiteCall("knows of", (x, s) -> x.knows(0, s, 0)),
        new SiteCall("knows about", (x, s) -> x.knows(0, 0, s)),
        new SiteCall("floor", (x, s) -> x.floor(s, 0)),
        new SiteCall("floor of", (x, s) -> x.floor(0, s)),
        new SiteCall("post waiting", (x, s) -> x.post(s, 0, -1)),
        new SiteCall("post held", (x, s) -> x.post(s, 1, -1)),
        new SiteCall("needs", (x, s) -> x.needs(1, s)),
        new SiteCall("has", (x, s) -> x.has(s, 1) ? 1 : -1),
        new SiteCall("count", (x, s) -> x.count(s, 0)),
        new SiteCall("place", (x, s) -> x.place(s, 0)),
        new SiteCall("unlike one", (x, s) -> x.unlike(s, 0)),
        new SiteCall("unlike other", (x, s) -> x.unlike(0, s)),
        new SiteCall("edits one", (x, s) -> x.edits(s, 0)),
        new SiteCall("edits other", (x, s) -> x.edits(0, s)),
    };

    /** A call with a site. */
    private interface Of {
        int call(MovingList x, int site);
    }

    private record SiteCall(String name, Of of) {
    }

    /** "numbered from 0": the first and the last one can be named, those beside these not. */
    private void sitesNumberedFromZero() {
        for (int n = 2; n <= 5; n++) {
            int sites = n;
            for (SiteCall row : OF_SITE) {
                Of of = row.of;
                for (int s : new int[] {0, n - 1}) {
                    int got = of.call(groupOf(n), s);
                    c.due(row.name + " at site " + s + " of " + n, true, got >= 0);
                }
                for (int s : new int[] {-1, n}) {
                    c.refused(row.name + " at site " + s + " of " + n, -1, () -> groupOf(sites),
                            x -> of.call(x, s));
                }
                c.due(row.name + " far", -1, of.call(groupOf(n), HIGH));
                c.due(row.name + " far below", -1, of.call(groupOf(n), LOW));
            }
        }
    }

    // ---- ops

    /** Site 1 of two made an insert, and then changes: n ops in all. */
    private static MovingList made(int n) {
        MovingList x = new MovingList();
        x.sites(2);
        x.insert(1, 0, 0);
        for (int k = 2; k <= n; k++) {
            x.change(1, 0, k % 26);
        }
        return x;
    }

    private static int act(MovingList x, int site, int kind) {
        switch (kind) {
            case 0:
                return x.insert(site, 0, 7);
            case 1:
                return x.move(site, 0, 0);
            case 2:
                return x.drop(site, 0);
            case 3:
                return x.change(site, 0, 7);
            default:
                return x.revert(site);
        }
    }

    /** "OPS of a SITE have NUMBERS 1, 2, .. (40 at most)", for each way to make one. */
    private void fortyOps() {
        for (int kind = 0; kind < 5; kind++) {
            int k = kind;
            MovingList x = made(39);
            c.due("the 40th, kind " + kind, 140, act(x, 1, kind));
            c.due("made", 40, x.count(1, 5));
            c.due("its time", 40, x.op(140, 1));
            c.due("it waits", 140, x.post(0, 0, 39));
            c.refused("the 41st, kind " + kind, -1, () -> made(40), y -> act(y, 1, k));
            MovingList z = made(40);
            act(z, 1, kind);
            c.due("no op 41", -2, z.op(141, 0));
            c.due("another site makes its first one", 1, z.insert(0, 0, 0));
        }
    }

    /** The same for acts that chance and script make: "nothing", and the end of the script. */
    private void fortyOpsAreRefusedToChanceAndScript() {
        MovingList x = made(40);
        c.due("a chance that is refused", 0, x.chance(1, insertSeed(1)));
        c.due("nothing made", 40, x.all(1));
        c.due("the same chance inside", 1, made(39).chance(1, insertSeed(1)));
        MovingList y = made(39);
        c.due("the 40th deed is done, the next not", 1,
                Check.script(y, "change 1 0 x; change 1 0 y; insert 0 0 a;"));
        c.due("its letter", 'x' - 'a', y.at(1, 0, 1));
        c.due("the rest is not done", 0, y.length(0));
    }

    /** The least seed whose first chance of two sites is an insert at a site. */
    private static int insertSeed(int site) {
        for (int seed = 0;; seed++) {
            int one = seed * 1103515245 + 12345;
            int two = one * 1103515245 + 12345;
            if ((one >>> 8) % 2 == site && (two >>> 8) % 8 <= 2) {
                return seed;
            }
        }
    }

    /** Forty at each of five sites: 200 in all. */
    private void fortyOpsOfEachSite() {
        MovingList x = new MovingList();
        x.sites(5);
        for (int s = 0; s < 5; s++) {
            for (int k = 1; k <= 40; k++) {
                c.due("insert " + k + " at " + s, 100 * s + k, x.insert(s, 0, 0));
            }
            c.due("insert 41 at " + s, -1, x.insert(s, 0, 0));
        }
        c.due("ops", 200, x.all(1));
        c.due("settled", 200, x.settled(-1, 0));
    }

    /** "the NAME of an OP is 100 times its SITE and its NUMBER." */
    private void names() {
        MovingList x = new MovingList();
        x.sites(5);
        for (int s = 0; s < 5; s++) {
            for (int k = 1; k <= 2; k++) {
                int name = 100 * s + k;
                c.due("insert", name, x.insert(s, 0, k));
                c.due("op " + name, 0, x.op(name, 0));
                c.due("its element " + name, name, x.op(name, 2));
                c.due("needs " + name, k - 1, x.needs(name, s));
                c.due("ahead " + name, 3, x.ahead(name, name));
                c.due("found " + name, k - 1, x.found(name, -1));
                c.due("rivals " + name, 0, x.rivals(name, -1));
                c.due("has " + name, true, x.has(s, name));
                c.due("index " + name, 0, x.index(s, name));
            }
        }
        for (int name : new int[] {0, 3, 41, 99, 100, 103, 140, 199, 200, 203, 299, 300, 303, 399,
            400, 403, 440, 441, 499, 500, 501, 601, -1, -2, -99, -101, -102, -399, -401, LOW, HIGH,
            LOW + 1, HIGH - 1}) {
            c.due("op " + name, -2, x.op(name, 0));
            c.due("needs " + name, -1, x.needs(name, 0));
            c.due("ahead " + name, -1, x.ahead(name, 1));
            c.due("ahead " + name, -1, x.ahead(1, name));
            c.due("found " + name, -1, x.found(name, -1));
            c.due("rivals " + name, -1, x.rivals(name, -1));
            c.due("has " + name, false, x.has(0, name) || x.has(4, name));
            c.due("index " + name, -1, x.index(0, name));
        }
    }

    // ---- vector, clock, time, needs

    /** "A VECTOR: of each SITE how many of its OPS it has DONE, from the first on." */
    private void vectorFromTheFirstOn() {
        MovingList x = new MovingList();
        c.dueText("none at first", "0 0 0", Check.vector(x, 1));
        Check.write(x, 0, "abc");
        x.insert(2, 0, 3);
        c.dueText("its own", "3 0 0", Check.vector(x, 0));
        x.deliver(1, 1);
        c.dueText("the second one alone is none from the first on", "0 0 0", Check.vector(x, 1));
        x.deliver(1, 1);
        c.dueText("the third one neither", "0 0 0", Check.vector(x, 1));
        x.deliver(1, 1);
        c.dueText("one of site 2", "0 0 1", Check.vector(x, 1));
        x.deliver(1, 0);
        c.dueText("the first one and what was held", "3 0 1", Check.vector(x, 1));
        for (int k = 4; k <= 40; k++) {
            x.insert(0, 0, 0);
        }
        c.dueText("up to 40", "40 0 0", Check.vector(x, 0));
        x.insert(0, 0, 0);
        c.dueText("and no more", "40 0 0", Check.vector(x, 0));
    }

    /** "a CLOCK (0 at first)"; "a TIME, 1 more than its CLOCK, which is that then". */
    private void clockAndTime() {
        MovingList x = new MovingList();
        for (int s = 0; s < 3; s++) {
            c.due("clock at first", 0, x.count(s, 4));
        }
        x.insert(1, 0, 0);
        c.due("the first time", 1, x.op(101, 1));
        c.due("the clock is that then", 1, x.count(1, 4));
        c.due("clocks of others stay", 0, x.count(0, 4));
        x.move(1, 0, 0);
        x.change(1, 0, 0);
        x.drop(1, 0);
        x.revert(1);
        for (int k = 2; k <= 5; k++) {
            c.due("1 more each", k, x.op(100 + k, 1));
        }
        c.due("the clock is that then", 5, x.count(1, 4));
    }

    /** A refused act makes no op and takes no time. */
    private void refusedTakesNoTime() {
        MovingList x = new MovingList();
        x.insert(0, 0, 0);
        x.insert(0, 2, 0);
        x.insert(0, 0, 26);
        x.move(0, 0, 1);
        x.drop(0, 1);
        x.change(0, 0, -1);
        c.due("clock", 1, x.count(0, 4));
        c.due("the next name", 2, x.insert(0, 0, 0));
        c.due("the next time", 2, x.op(2, 1));
        MovingList y = new MovingList();
        c.due("nothing to revert", -1, y.revert(0));
        c.due("clock", 0, y.count(0, 4));
    }

    /** "As one of another SITE is DONE, CLOCK is the greater of CLOCK and its TIME." */
    private void clockOfOthers() {
        MovingList x = new MovingList();
        Check.write(x, 0, "abc");
        Check.write(x, 1, "abcd");
        int[] clocks = {3, 3, 3, 4};
        for (int k = 0; k < 4; k++) {
            c.due("done", 1, x.deliver(0, 0));
            c.due("behind one of time " + (k + 1), clocks[k], x.count(0, 4));
        }
        x.insert(0, 0, 0);
        c.due("1 more than that", 5, x.op(4, 1));
        MovingList y = new MovingList();
        Check.write(y, 0, "abc");
        y.insert(1, 0, 0);
        c.due("sync from one behind", 1, y.sync(1, 0));
        c.due("stays", 3, y.count(0, 4));
        y.sync(0, 1);
        c.due("sync from one ahead", 3, y.count(1, 4));
        c.due("the first one is as it was", 3, y.count(0, 4));
    }

    /** One that is not done leaves the clock as it is. */
    private void clockOfHeldAndOld() {
        MovingList x = new MovingList();
        Check.write(x, 0, "abc");
        x.deliver(1, 2);
        c.due("held", 0, x.count(1, 4));
        x.twice(1, 0);
        x.deliver(1, 0);
        c.due("the first one", 1, x.count(1, 4));
        x.deliver(1, 1);
        c.due("an old one", 1, x.count(1, 4));
        x.deliver(1, 0);
        c.due("the second one, and the held one", 3, x.count(1, 4));
    }

    /** "its NEEDS are the VECTOR as it was ahead of it". */
    private void needsAheadOfIt() {
        MovingList x = new MovingList();
        x.insert(0, 0, 0);
        c.dueText("the first one needs nothing", "0 0 0", Check.needs(x, 1));
        x.insert(0, 0, 0);
        c.dueText("the second one the first", "1 0 0", Check.needs(x, 2));
        x.sync(0, 1);
        x.insert(1, 0, 0);
        c.dueText("what it has done of others", "2 0 0", Check.needs(x, 101));
        x.sync(1, 0);
        x.insert(0, 0, 0);
        c.dueText("both", "2 1 0", Check.needs(x, 3));
        c.dueText("as it was then", "1 0 0", Check.needs(x, 2));
    }

    /** "it is DONE there at once" (and nowhere else). */
    private void doneAtOnce() {
        MovingList x = new MovingList();
        x.insert(1, 0, 4);
        c.due("done there", true, x.has(1, 101));
        c.due("counted", 1, x.vector(1, 1));
        c.due("shown", 1, x.length(1));
        c.due("not posted to itself", 0, x.post(1, 0, -1));
        c.due("not done at 0", false, x.has(0, 101));
        c.due("not done at 2", false, x.has(2, 101));
        c.due("posted to 0", 1, x.post(0, 0, -1));
        c.due("posted to 2", 1, x.post(2, 0, -1));
    }

    // ---- later

    /** "LATER .. that of the greater TIME, of like ones that of the greater SITE", for places. */
    private void laterPlaces() {
        MovingList x = new MovingList();
        x.insert(0, 0, 0);
        x.insert(1, 0, 0);
        x.insert(2, 0, 0);
        Check.syncAll(x);
        c.dueText("of like times by sites", "0 201 101 1", Check.places(x, 1));
        MovingList y = new MovingList();
        y.insert(2, 0, 0);
        Check.write(y, 0, "ab");
        y.drop(0, 0);
        y.insert(0, 0, 0);
        Check.syncAll(y);
        // At the head 4 (time 4), 201 and 1 (time 1).
        c.dueText("the greater time goes before the site", "0 4 201 1 2", Check.places(y, 1));
    }

    /** Two moves of one element from site 1 and 2 come to site 0, in either order. */
    private static MovingList moved(boolean laterTimeAtOne, boolean oneFirst) {
        MovingList x = new MovingList();
        Check.write(x, 0, "abc");
        Check.syncAll(x);
        if (laterTimeAtOne) {
            x.change(1, 1, 9);
        }
        x.move(1, 0, 1);
        x.move(2, 0, 2);
        int ofOne = laterTimeAtOne ? 2 : 1;
        for (int k = 0; k < ofOne + 1; k++) {
            x.deliver(0, oneFirst || k > 0 ? 0 : ofOne);
        }
        return x;
    }

    /** "an ELEMENT is AT the PLACE of the LATEST of its INSERT and MOVES". */
    private void latestOfMoves() {
        for (boolean oneFirst : new boolean[] {true, false}) {
            MovingList x = moved(false, oneFirst);
            c.dueText("the greater site", "2 3 1", Check.names(x, 0));
            c.due("at its move", 201, x.at(0, 2, 2));
            c.due("moved", 2, x.at(0, 2, 3));
            MovingList y = moved(true, oneFirst);
            c.dueText("the greater time", "2 1 3", Check.names(y, 0));
            c.due("at its move", 102, y.at(0, 1, 2));
            c.due("moved", 2, y.at(0, 1, 3));
        }
        MovingList z = new MovingList();
        z.insert(0, 0, 0);
        c.due("its insert, while there is no move", 1, z.at(0, 0, 2));
        z.move(0, 0, 0);
        c.due("its move, also to where it was", 2, z.at(0, 0, 2));
    }

    /** A move that is needed by another is earlier than that, whatever the sites. */
    private void olderMoveThatComesLast() {
        MovingList x = new MovingList();
        Check.write(x, 0, "ab");
        Check.syncAll(x);
        x.move(2, 0, 1);
        x.sync(2, 1);
        x.move(1, 1, 0);
        c.due("held, as it needs the other", 0, x.deliver(0, 1));
        c.due("both", 2, x.deliver(0, 0));
        c.due("the second move", 101, x.at(0, 0, 2));
        c.dueText("names", "1 2", Check.names(x, 0));
    }

    /** "its LETTER is that of the LATEST of its INSERT and CHANGES". */
    private void latestOfChanges() {
        for (int first = 0; first < 2; first++) {
            MovingList x = new MovingList();
            Check.write(x, 0, "a");
            Check.syncAll(x);
            x.change(1, 0, 11);
            x.change(2, 0, 12);
            c.due("its insert, while there is no change", 0, x.at(0, 0, 1));
            x.deliver(0, first);
            c.due("the one that came", 11 + first, x.at(0, 0, 1));
            x.deliver(0, 0);
            c.due("the greater site", 12, x.at(0, 0, 1));
            MovingList y = new MovingList();
            Check.write(y, 0, "a");
            Check.syncAll(y);
            y.move(1, 0, 0);
            y.change(1, 0, 11);
            y.change(2, 0, 12);
            y.deliver(0, first == 0 ? 2 : 0);
            y.deliver(0, 0);
            y.deliver(0, 0);
            c.due("the greater time", 11, y.at(0, 0, 1));
        }
    }

    /** "it is GONE, if one DROP of it is DONE": earlier, later, once or twice. */
    private void oneDrop() {
        MovingList x = new MovingList();
        Check.write(x, 0, "ab");
        Check.syncAll(x);
        x.drop(0, 0);
        x.change(1, 1, 3);
        x.change(1, 0, 4);
        x.move(1, 0, 1);
        x.move(2, 0, 0);
        x.drop(2, 0);
        c.dueText("site 1 shows both", "2 1", Check.names(x, 1));
        x.deliver(1, 2);
        c.dueText("the first drop", "2", Check.names(x, 1));
        c.due("gone", 1, x.count(1, 2));
        x.deliver(1, 2);
        x.deliver(1, 2);
        c.dueText("and a second one", "2", Check.names(x, 1));
        c.due("gone once", 1, x.count(1, 2));
        Check.syncAll(x);
        c.dueText("gone at 0, whatever comes later", "2", Check.names(x, 0));
        c.dueText("gone at 2, whatever comes later", "2", Check.names(x, 2));
        c.due("not to be dropped again", -1, x.drop(0, 1));
    }

    // ---- places, order, list

    /** "PLACES are the HEAD (0) and one of each INSERT, MOVE (its NAME)." */
    private void headAndPlaces() {
        MovingList x = new MovingList();
        c.dueText("the head alone", "0", Check.places(x, 2));
        x.insert(2, 0, 1);
        c.dueText("of an insert", "0 201", Check.places(x, 2));
        x.change(2, 0, 2);
        c.dueText("none of a change", "0 201", Check.places(x, 2));
        x.move(2, 0, 0);
        c.dueText("of a move", "0 203 201", Check.places(x, 2));
        x.drop(2, 0);
        c.dueText("none of a drop, which takes none either", "0 203 201", Check.places(x, 2));
        c.dueText("none of what is not done", "0", Check.places(x, 0));
    }

    /** "right behind each PLACE those told behind it, the LATER ones first, each with all ..". */
    private void orderBehindEachPlace() {
        MovingList x = new MovingList();
        Check.write(x, 0, "ab");
        Check.syncAll(x);
        x.insert(0, 1, 2);
        x.insert(0, 1, 3);
        c.dueText("the later one first", "0 1 4 3 2", Check.places(x, 0));
        x.insert(0, 3, 4);
        c.dueText("behind 3, with it", "0 1 4 3 5 2", Check.places(x, 0));
        x.insert(1, 1, 5);
        x.insert(1, 2, 6);
        x.insert(2, 1, 7);
        x.deliver(0, 2);
        c.dueText("201 of time 3 is behind 4 and all of it", "0 1 4 201 3 5 2",
                Check.places(x, 0));
        x.deliver(0, 0);
        x.deliver(0, 0);
        c.dueText("101 of time 3 with 102 behind it", "0 1 4 201 101 102 3 5 2",
                Check.places(x, 0));
        Check.syncAll(x);
        c.dueText("in whatever order they came", "0 1 4 201 101 102 3 5 2", Check.places(x, 1));
        c.dueText("in whatever order they came", "0 1 4 201 101 102 3 5 2", Check.places(x, 2));
        c.dueText("all are shown", "1 4 201 101 102 3 5 2", Check.names(x, 2));
    }

    /** The place of a move is ordered as that of an insert. */
    private void orderOfLikeTimes() {
        MovingList x = new MovingList();
        Check.write(x, 0, "abc");
        Check.syncAll(x);
        x.move(0, 2, 1);
        x.insert(1, 1, 9);
        x.move(2, 2, 1);
        Check.syncAll(x);
        for (int s = 0; s < 3; s++) {
            c.dueText("by sites", "0 1 201 101 4 2 3", Check.places(x, s));
            c.dueText("c at the place of the greater site", "1 3 101 2", Check.names(x, s));
        }
    }

    /** "LIST: of PLACES in ORDER the ELEMENTS that are AT them and not GONE." */
    private void listOnceAndNotGone() {
        MovingList x = new MovingList();
        Check.write(x, 0, "abc");
        for (int k = 0; k < 5; k++) {
            x.move(0, k % 3, (k + 1) % 3);
            c.due("each is shown once", 3, x.length(0));
        }
        c.due("places of all moves", 9, x.count(0, 0));
        x.drop(0, 1);
        c.due("not the one that is gone", 2, x.length(0));
        x.drop(0, 1);
        x.drop(0, 0);
        c.due("none", 0, x.length(0));
        c.due("all places are there still", 9, x.count(0, 0));
    }

    // ---- by an index

    private static MovingList row(int n) {
        MovingList x = new MovingList();
        for (int k = 0; k < n; k++) {
            x.insert(0, k, k);
        }
        return x;
    }

    /** "a LETTER 0 to 25". */
    private void letters() {
        for (int letter : new int[] {0, 1, 24, 25}) {
            MovingList x = row(2);
            c.due("insert", 3, x.insert(0, 1, letter));
            c.due("its letter", letter, x.at(0, 1, 1));
            c.due("change", 4, x.change(0, 0, letter));
            c.due("its letter", letter, x.at(0, 0, 1));
            c.due("of the op", letter, x.op(4, 4));
        }
        for (int letter : new int[] {-1, 26, 27, 97, -26, LOW, HIGH}) {
            c.refused("insert of " + letter, -1, () -> row(2), x -> x.insert(0, 0, letter));
            c.refused("change to " + letter, -1, () -> row(2), x -> x.change(0, 0, letter));
        }
    }

    /** "INSERT at i (0 to how many there are): behind .. that is at i - 1, the HEAD for 0." */
    private void insertIndex() {
        for (int n = 0; n <= 4; n++) {
            int there = n;
            for (int i = 0; i <= n; i++) {
                MovingList x = row(n);
                c.due("insert at " + i + " of " + n, n + 1, x.insert(0, i, 25));
                c.due("it is there", i, x.index(0, n + 1));
                c.due("behind the one ahead", i, x.op(n + 1, 3));
                c.due("one more", n + 1, x.length(0));
            }
            for (int i : new int[] {-1, n + 1, n + 2, LOW, HIGH}) {
                c.refused("insert at " + i + " of " + n, -1, () -> row(there),
                        x -> x.insert(0, i, 25));
            }
        }
        MovingList y = row(3);
        y.move(0, 2, 0);
        y.drop(0, 1);
        c.dueText("3 at its move, then 2", "3 2", Check.names(y, 0));
        y.insert(0, 1, 0);
        c.due("behind the place where 3 is", 4, y.op(6, 3));
        y.insert(0, 3, 0);
        c.due("behind the place of 2", 2, y.op(7, 3));
        c.due("beyond, though there are more places", -1, y.insert(0, 5, 0));
    }

    /** A list that is empty again is as one that was never filled, by an index. */
    private void insertIntoEmpty() {
        MovingList x = row(1);
        x.drop(0, 0);
        c.due("at 1", -1, x.insert(0, 1, 0));
        c.due("at 0", 3, x.insert(0, 0, 0));
        c.due("behind the head", 0, x.op(3, 3));
        c.dueText("places", "0 3 1", Check.places(x, 0));
    }

    /** "MOVE of the one at i to j: behind .. the one that is at j - 1 in the LIST without it". */
    private void moveEachToEach() {
        for (int n = 1; n <= 5; n++) {
            for (int i = 0; i < n; i++) {
                for (int j = 0; j < n; j++) {
                    MovingList x = row(n);
                    StringBuilder rest = new StringBuilder("abcde".substring(0, n));
                    rest.deleteCharAt(i);
                    int behind = j == 0 ? 0 : rest.charAt(j - 1) - 'a' + 1;
                    rest.insert(j, (char) ('a' + i));
                    c.due("move " + i + " to " + j, n + 1, x.move(0, i, j));
                    c.dueText("letters", rest.toString(), Check.letters(x, 0));
                    c.due("behind", behind, x.op(n + 1, 3));
                    c.due("it is at that place", n + 1, x.at(0, j, 2));
                }
            }
        }
    }

    /** "(j 0 to one less than there are)", and i such as there is. */
    private void moveBeyond() {
        for (int n = 0; n <= 3; n++) {
            int there = n;
            for (int i : new int[] {-1, n, n + 1, LOW, HIGH}) {
                c.refused("move from " + i, -1, () -> row(there), x -> x.move(0, i, 0));
                c.refused("move to " + i, -1, () -> row(there), x -> x.move(0, 0, i));
                c.refused("move from and to " + i, -1, () -> row(there), x -> x.move(0, i, i));
            }
        }
    }

    /** One element alone can be moved to where it is. */
    private void moveOfTheOnlyOne() {
        MovingList x = row(1);
        c.due("to 1", -1, x.move(0, 0, 1));
        c.due("to 0", 2, x.move(0, 0, 0));
        c.due("behind the head", 0, x.op(2, 3));
        c.dueText("places", "0 2 1", Check.places(x, 0));
        c.due("moved", 1, x.at(0, 0, 3));
    }
}
