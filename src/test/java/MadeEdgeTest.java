/**
 * The sentences of the third part of "Terms" on what is settled, found, reverted and drawn that
 * name a boundary case, each with a test of its own: just inside, just outside, what later calls
 * show. The draws were worked out apart from the class.
 */
public final class MadeEdgeTest {
    private static final int LOW = Integer.MIN_VALUE;
    private static final int HIGH = Integer.MAX_VALUE;

    private final Check c = new Check();

    public static void main(String[] args) {
        MadeEdgeTest t = new MadeEdgeTest();
        t.settledOfNothing();
        t.settledWhateverWasLost();
        t.settledWhateverWasSwept();
        t.settledIsWhatAllShow();
        t.foundByTheFirstOne();
        t.foundByNeedsAlone();
        t.foundStaysAsItWas();
        t.revertNeedsAnOp();
        t.revertTheLatestItMade();
        t.revertInsert();
        t.revertChange();
        t.revertMoveOfTheFirst();
        t.revertMoveBehindAnother();
        t.revertMoveBehindOneMovedSince();
        t.revertMoveBehindOneGone();
        t.revertMoveBehindOneSwept();
        t.revertDrop();
        t.revertDropBehindAnother();
        t.revertDropOfOneForgotten();
        t.revertOfOneNotInTheList();
        t.revertOfRevert();
        t.chanceOneToSixty();
        t.chanceInsertAtExtremeSeeds();
        t.chanceOfSites();
        t.chanceOfNothing();
        t.chanceDrawsNoMoreForNothing();
        t.chanceSync();
        t.chanceDrawsAllForRefused();
        t.chanceInsertAtAnIndex();
        t.chanceMoveDropChange();
        t.chanceDeliver();
        t.c.end();
    }

    // ---- settled

    /** How many, where nothing was made, or all was dropped. */
    private void settledOfNothing() {
        MovingList x = new MovingList();
        c.due("nothing made", 0, x.settled(-1, 0));
        c.due("none such", -1, x.settled(0, 0));
        c.due("none such", -1, x.settled(0, 1));
        x.insert(1, 0, 5);
        c.due("one", 1, x.settled(-1, 0));
        c.due("its name", 101, x.settled(0, 0));
        c.due("its letter", 5, x.settled(0, 1));
        x.drop(1, 0);
        c.due("dropped", 0, x.settled(-1, 1));
        c.due("none such", -1, x.settled(0, 1));
    }

    /** "if each had DONE all OPS that were made at any SITE (whatever was LOST ..)". */
    private void settledWhateverWasLost() {
        MovingList x = new MovingList();
        Check.write(x, 0, "ab");
        x.insert(1, 0, 2);
        for (int s = 0; s < 3; s++) {
            while (x.lose(s, 0) != -1) {
                c.dueText("settled", "101 1 2", Check.settled(x));
            }
        }
        c.due("six are lost", 6, x.all(4));
        c.due("no site shows it", 2, x.length(0));
        c.due("no site shows it", 0, x.length(2));
        c.dueText("settled", "101 1 2", Check.settled(x));
        MovingList y = new MovingList();
        y.insert(0, 0, 0);
        for (int k = 0; k < 59; k++) {
            y.twice(1, 0);
        }
        y.insert(0, 0, 1);
        c.due("one lost of a full row", 1, y.all(4));
        c.dueText("settled", "2 1", Check.settled(y));
    }

    /** ".. swept". */
    private void settledWhateverWasSwept() {
        MovingList x = new MovingList();
        x.sites(2);
        Check.script(x, "insert 0 0 a; insert 0 1 b; insert 0 2 c; move 0 2 0; drop 0 1; sync 0 1;"
                + "tell 1 0; tell 0 1;");
        c.dueText("ahead of it", "3 2", Check.settled(x));
        x.sweep(0);
        x.sweep(1);
        c.dueText("behind it", "3 2", Check.settled(x));
        x.insert(1, 2, 20);
        c.dueText("and one more", "3 2 101", Check.settled(x));
        c.due("its letter", 20, x.settled(2, 1));
    }

    /** All show it as soon as all have done all. */
    private void settledIsWhatAllShow() {
        MovingList x = new MovingList();
        Check.write(x, 0, "abcd");
        Check.syncAll(x);
        x.move(0, 3, 0);
        x.move(1, 3, 1);
        x.change(1, 0, 11);
        x.change(2, 0, 12);
        x.drop(2, 1);
        x.insert(0, 2, 13);
        String names = Check.settled(x);
        String letters = Check.join(x.settled(-1, 1), i -> x.settled(i, 1));
        Check.syncAll(x);
        for (int s = 0; s < 3; s++) {
            int site = s;
            c.dueText("names", names, Check.names(x, s));
            c.dueText("letters", letters, Check.join(x.length(s), i -> x.at(site, i, 1)));
        }
        // Of the moves (time 5 both) that of site 1, of the changes that of time 6 is the later.
        c.dueText("by hand", "1 6 4 3", names);
        c.dueText("by hand", "11 13 3 2", letters);
    }

    // ---- found

    /** Of the first op of a site that has done nothing: an empty list. */
    private void foundByTheFirstOne() {
        MovingList x = new MovingList();
        x.insert(0, 0, 0);
        x.insert(1, 0, 0);
        Check.syncAll(x);
        c.due("none", 0, x.found(1, -1));
        c.due("none", 0, x.found(101, -1));
        c.due("none such", -1, x.found(101, 0));
    }

    /** "FOUND by an OP: the LIST by its NEEDS alone, as it was made." */
    private void foundByNeedsAlone() {
        MovingList x = new MovingList();
        Check.write(x, 0, "abc");
        x.deliver(1, 0);
        x.deliver(1, 0);
        x.insert(1, 2, 3);
        x.move(0, 2, 0);
        x.drop(0, 1);
        c.dueText("not itself", "1 2", Check.found(x, 101));
        Check.syncAll(x);
        c.dueText("not what came to its site since", "1 2", Check.found(x, 101));
        c.dueText("not what was concurrent", "1 2 3", Check.found(x, 4));
        c.dueText("not what it did itself", "3 1 2", Check.found(x, 5));
        x.insert(2, 0, 0);
        c.dueText("all that it has done", "3 2 101", Check.found(x, 201));
    }

    /** As it was made, whatever was swept. */
    private void foundStaysAsItWas() {
        MovingList x = new MovingList();
        x.sites(2);
        Check.script(x, "insert 0 0 a; insert 0 1 b; drop 0 1; drop 0 0; sync 0 1; tell 1 0;");
        c.due("both go", 2, x.sweep(0));
        c.dueText("found by the first drop", "1 2", Check.found(x, 3));
        c.dueText("found by the second drop", "1", Check.found(x, 4));
    }

    // ---- revert

    /** "NONE: .. it made none". */
    private void revertNeedsAnOp() {
        c.refused("new", -1, MovingList::new, x -> x.revert(0));
        Check.Scene scene = () -> {
            MovingList x = new MovingList();
            Check.write(x, 0, "ab");
            x.sync(0, 1);
            return x;
        };
        c.refused("it has done some, made none", -1, scene, x -> x.revert(1));
        c.due("the one that made them", 3, scene.make().revert(0));
        // Forty ops of the site ahead are none of its own.
        Check.Scene forty = () -> {
            MovingList x = forty();
            x.sync(0, 1);
            return x;
        };
        c.due("it shows what site 0 made", 1, forty.make().length(1));
        c.due("it made none", -1, forty.make().revert(1));
        MovingList y = forty.make();
        y.revert(1);
        c.due("nothing was made", 40, y.all(1));
    }

    /** "the latest OP that it made": not the latest that it has done. */
    private void revertTheLatestItMade() {
        MovingList x = new MovingList();
        Check.write(x, 0, "ab");
        x.sync(0, 1);
        x.change(1, 0, 9);
        x.sync(1, 0);
        c.due("revert", 3, x.revert(0));
        c.dueText("a drop of 2, not a change", "2 4 2 -1 -1", Check.op(x, 3));
        c.dueText("letters", "j", Check.letters(x, 0));
    }

    /** "an INSERT by a DROP". */
    private void revertInsert() {
        MovingList x = new MovingList();
        x.insert(0, 0, 3);
        c.due("revert", 2, x.revert(0));
        c.dueText("a drop", "2 2 1 -1 -1", Check.op(x, 2));
        c.due("the list is empty", 0, x.length(0));
        MovingList y = new MovingList();
        y.insert(0, 0, 3);
        y.sync(0, 1);
        y.move(1, 0, 0);
        y.change(1, 0, 4);
        y.sync(1, 0);
        c.due("revert of one moved since", 2, y.revert(0));
        c.due("the list is empty", 0, y.length(0));
    }

    /** "a CHANGE by one to the LETTER FOUND by it". */
    private void revertChange() {
        MovingList x = new MovingList();
        x.insert(0, 0, 3);
        x.change(0, 0, 4);
        c.due("revert", 3, x.revert(0));
        c.dueText("to that of the insert", "3 3 1 -1 3", Check.op(x, 3));
        x.change(0, 0, 3);
        c.due("of a change to the letter that it is", 5, x.revert(0));
        c.due("that letter", 3, x.op(5, 4));
        x.change(0, 0, 25);
        x.change(0, 0, 0);
        c.due("revert", 8, x.revert(0));
        c.due("to that of the change ahead", 25, x.op(8, 4));
        // Found by needs alone: not one that came from elsewhere since.
        MovingList y = new MovingList();
        y.insert(0, 0, 3);
        y.sync(0, 1);
        y.change(0, 0, 5);
        y.change(1, 0, 6);
        y.sync(1, 0);
        c.due("shown", 6, y.at(0, 0, 1));
        c.due("revert", 3, y.revert(0));
        c.due("shown then", 3, y.at(0, 0, 1));
        y.move(0, 0, 0);
        y.sync(0, 1);
        c.due("also where the element was moved meanwhile", 102, y.revert(1));
        c.due("to the letter that site 1 found", 3, y.op(102, 4));
    }

    /** "(the HEAD, if its own was the first ..)". */
    private void revertMoveOfTheFirst() {
        MovingList x = new MovingList();
        Check.write(x, 0, "abc");
        x.move(0, 0, 2);
        c.due("revert", 5, x.revert(0));
        c.dueText("behind the head", "1 5 1 0 -1", Check.op(x, 5));
        c.dueText("letters", "abc", Check.letters(x, 0));
        c.due("it is at that place", 5, x.at(0, 0, 2));
        MovingList y = new MovingList();
        y.insert(0, 0, 0);
        y.move(0, 0, 0);
        c.due("the only one", 3, y.revert(0));
        c.due("behind the head", 0, y.op(3, 3));
    }

    /** "behind the PLACE of the ELEMENT that was right ahead of its own in the LIST FOUND". */
    private void revertMoveBehindAnother() {
        for (int i = 1; i < 4; i++) {
            for (int j = 0; j < 4; j++) {
                MovingList x = new MovingList();
                Check.write(x, 0, "abcd");
                x.move(0, i, j);
                c.due("revert", 6, x.revert(0));
                c.due("behind the one ahead", i, x.op(6, 3));
                c.due("the same element", i + 1, x.op(6, 2));
                c.dueText("letters", "abcd", Check.letters(x, 0));
            }
        }
    }

    /** The place of that element is where it is now. */
    private void revertMoveBehindOneMovedSince() {
        MovingList x = new MovingList();
        Check.write(x, 0, "abc");
        x.sync(0, 1);
        x.move(0, 2, 0);
        x.move(1, 1, 0);
        x.sync(1, 0);
        c.dueText("b was right ahead of c, and is at the front", "2 3 1", Check.names(x, 0));
        c.due("revert", 5, x.revert(0));
        c.due("behind the move of b", 101, x.op(5, 3));
        c.dueText("names", "2 3 1", Check.names(x, 0));
    }

    /** ".. or that ELEMENT is not in the LIST now". */
    private void revertMoveBehindOneGone() {
        MovingList y = new MovingList();
        Check.write(y, 0, "abc");
        y.move(0, 2, 1);
        c.due("revert", 5, y.revert(0));
        c.due("while b is in the list", 2, y.op(5, 3));
        MovingList x = new MovingList();
        Check.write(x, 0, "abc");
        x.sync(0, 1);
        x.move(0, 2, 1);
        x.drop(1, 1);
        x.sync(1, 0);
        c.dueText("b is gone", "1 3", Check.names(x, 0));
        c.due("revert", 5, x.revert(0));
        c.due("behind the head, not behind a", 0, x.op(5, 3));
        c.dueText("names", "3 1", Check.names(x, 0));
    }

    /** Also if its place was swept meanwhile. */
    private void revertMoveBehindOneSwept() {
        MovingList x = new MovingList();
        x.sites(2);
        Check.write(x, 0, "ab");
        x.move(0, 1, 0);
        x.sync(0, 1);
        x.drop(1, 1);
        Check.syncAll(x);
        x.tell(1, 0);
        c.due("the old place of b, and that of a", 2, x.sweep(0));
        c.due("a is forgotten", 1, x.count(0, 1));
        c.due("revert", 4, x.revert(0));
        c.due("behind the head", 0, x.op(4, 3));
        c.dueText("places", "0 4 3", Check.places(x, 0));
    }

    /** "a DROP by an INSERT of the LETTER FOUND, behind that PLACE likewise". */
    private void revertDrop() {
        MovingList x = new MovingList();
        Check.write(x, 0, "ab");
        x.change(0, 0, 20);
        x.drop(0, 0);
        c.due("revert", 5, x.revert(0));
        c.dueText("an insert of a new element", "0 5 5 0 20", Check.op(x, 5));
        c.dueText("names", "5 2", Check.names(x, 0));
        c.due("not moved", 0, x.at(0, 0, 3));
        MovingList y = new MovingList();
        y.insert(0, 0, 7);
        y.drop(0, 0);
        c.due("the only one", 3, y.revert(0));
        c.dueText("behind the head", "0 3 3 0 7", Check.op(y, 3));
        // The letter found by its needs, not a change that came since.
        MovingList z = new MovingList();
        z.insert(0, 0, 7);
        z.sync(0, 1);
        z.drop(0, 0);
        z.change(1, 0, 8);
        z.sync(1, 0);
        z.revert(0);
        c.due("the letter found", 7, z.op(3, 4));
    }

    /** For a drop: one ahead, one moved since, one gone. */
    private void revertDropBehindAnother() {
        for (int i = 1; i < 4; i++) {
            MovingList x = new MovingList();
            Check.write(x, 0, "abcd");
            x.drop(0, i);
            c.due("revert", 6, x.revert(0));
            c.due("behind the one ahead", i, x.op(6, 3));
            c.dueText("letters", "abcd", Check.letters(x, 0));
        }
        MovingList y = new MovingList();
        Check.write(y, 0, "abc");
        y.sync(0, 1);
        y.drop(0, 2);
        y.move(1, 1, 0);
        y.sync(1, 0);
        y.revert(0);
        c.due("where that one is now", 101, y.op(5, 3));
        c.dueText("names", "2 5 1", Check.names(y, 0));
        MovingList z = new MovingList();
        Check.write(z, 0, "abc");
        z.sync(0, 1);
        z.drop(0, 2);
        z.drop(1, 1);
        z.sync(1, 0);
        z.revert(0);
        c.due("behind the head, as it is gone", 0, z.op(5, 3));
        c.dueText("names", "5 1", Check.names(z, 0));
    }

    /** The element of a drop may be forgotten. */
    private void revertDropOfOneForgotten() {
        MovingList x = new MovingList();
        x.sites(2);
        Check.script(x, "insert 0 0 a; insert 0 1 x; drop 0 1; sync 0 1; tell 1 0; sweep 0;");
        c.due("forgotten", 1, x.count(0, 1));
        c.due("revert", 4, x.revert(0));
        c.dueText("its letter, behind a", "0 4 4 1 23", Check.op(x, 4));
    }

    /** "NONE: .. its ELEMENT is not in its LIST now (but for a DROP)". */
    private void revertOfOneNotInTheList() {
        for (int kind = 0; kind < 3; kind++) {
            int k = kind;
            Check.Scene here = () -> gone(k, false);
            Check.Scene gone = () -> gone(k, true);
            int made = kind == 0 ? 101 : 102;
            c.due("it is there", made + 1, here.make().revert(1));
            c.refused("it is gone, kind " + kind, -1, gone, x -> x.revert(1));
        }
        MovingList x = new MovingList();
        x.insert(1, 0, 0);
        x.drop(1, 0);
        c.due("but for a drop", 103, x.revert(1));
    }

    /** Site 1 made an insert (kind 0) and then a move (1) or change (2); site 0 dropped it. */
    private static MovingList gone(int kind, boolean dropped) {
        MovingList x = new MovingList();
        x.insert(1, 0, 4);
        x.sync(1, 0);
        if (kind == 1) {
            x.move(1, 0, 0);
        } else if (kind == 2) {
            x.change(1, 0, 5);
        }
        x.drop(0, 0);
        if (dropped) {
            x.sync(0, 1);
        }
        return x;
    }

    /** A revert is an op that it made, which a second one takes back. */
    private void revertOfRevert() {
        MovingList x = new MovingList();
        Check.write(x, 0, "ab");
        c.due("the insert", 3, x.revert(0));
        c.due("the drop", 4, x.revert(0));
        c.due("the insert again", 5, x.revert(0));
        c.dueText("letters", "a", Check.letters(x, 0));
        for (int k = 6; k <= 40; k++) {
            c.due("on and on", k, x.revert(0));
        }
        c.due("up to 40", -1, x.revert(0));
        c.dueText("letters", "ab", Check.letters(x, 0));
        MovingList y = new MovingList();
        Check.write(y, 0, "abc");
        y.move(0, 0, 2);
        y.revert(0);
        c.due("of the move back", 6, y.revert(0));
        c.due("behind c", 3, y.op(6, 3));
        c.dueText("letters", "bca", Check.letters(y, 0));
    }

    // ---- chance

    /** "CHANCE n times (1 to 60)". */
    private void chanceOneToSixty() {
        for (int n : new int[] {0, -1, 61, 62, LOW, HIGH}) {
            c.refused("chance(" + n + ", 1)", -1, MovingList::new, x -> x.chance(n, 1));
        }
        MovingList x = new MovingList();
        c.due("once", 1, x.chance(1, 1));
        c.due("one op", 1, x.all(1));
        for (int n : new int[] {2, 59, 60}) {
            MovingList y = new MovingList();
            int acts = y.chance(n, 1);
            c.due("at most n", true, acts > 0 && acts <= n);
        }
        // 60 times is once more than 59 times, from the same seed.
        int more = 0;
        for (int seed = 0; seed < 20; seed++) {
            more += new MovingList().chance(60, seed) - new MovingList().chance(59, seed);
        }
        c.due("the 60th is done", true, more > 0 && more <= 20);
    }

    private void chanceInsert(int seed, int site, int letter) {
        MovingList x = new MovingList();
        c.due("chance of " + seed, 1, x.chance(1, seed));
        c.due("at that site", 100 * site + 1, Check.at(x, site, 0, 0));
        c.due("that letter", letter, Check.at(x, site, 0, 1));
        c.due("one op", 1, x.all(1));
    }

    /** "x becomes x * 1103515245 + 12345 (an int, wrapping), a DRAW of m is (x >>> 8) % m". */
    private void chanceInsertAtExtremeSeeds() {
        chanceInsert(1, 2, 3);
        chanceInsert(4, 2, 20);
        chanceInsert(-2, 2, 12);
        chanceInsert(-5, 2, 6);
        chanceInsert(HIGH - 1, 1, 18);
        chanceInsert(HIGH - 4, 0, 0);
        chanceInsert(HIGH - 5, 1, 3);
        chanceInsert(LOW + 1, 1, 9);
        chanceInsert(LOW + 4, 1, 0);
        chanceInsert(LOW + 5, 1, 11);
        for (int seed : new int[] {0, -1, HIGH, LOW}) {
            // Site 0, 1, 2, 2; kind 6, 4, 4, 6: nothing is there.
            c.refused("chance of " + seed, 0, MovingList::new, x -> x.chance(1, seed));
        }
    }

    /** "a DRAW of SITES", of as many as there are. */
    private void chanceOfSites() {
        MovingList two = new MovingList();
        two.sites(2);
        two.chance(1, 4);
        c.due("of two the second", 20, Check.at(two, 1, 0, 1));
        MovingList five = new MovingList();
        five.sites(5);
        five.chance(1, 18);
        c.due("of five the last", 19, Check.at(five, 4, 0, 1));
    }

    /** "(Where the LIST, WAITING ones are none ..: nothing.)" */
    private void chanceOfNothing() {
        int[] move = {2, 12, 22, 75};
        int[] drop = {6, 9, 19};
        int[] change = {3, 16, 23};
        int[] deliver = {0, 10, 30};
        for (int[] seeds : new int[][] {move, drop, change, deliver}) {
            for (int seed : seeds) {
                c.refused("chance of " + seed, 0, MovingList::new, x -> x.chance(1, seed));
            }
        }
    }

    private void then(int seed, int acts, int site, int letter) {
        MovingList x = new MovingList();
        c.due("two chances of " + seed, acts, x.chance(2, seed));
        c.due("that letter", letter, Check.at(x, site, 0, 1));
        c.due("one op", 1, x.all(1));
    }

    /** Where nothing is there no index is drawn: the next chance begins with the next draw. */
    private void chanceDrawsNoMoreForNothing() {
        then(2, 1, 1, 10);
        then(12, 1, 0, 24);
        then(19, 1, 1, 10);
        then(29, 1, 0, 23);
        then(3, 1, 0, 6);
        then(36, 1, 2, 9);
        then(10, 1, 2, 18);
        then(30, 1, 1, 19);
    }

    /** "7 SYNC to it from a DRAW of SITES": from itself it is refused; else it counts. */
    private void chanceSync() {
        c.refused("from itself", 0, MovingList::new, x -> x.chance(1, 7));
        c.refused("from itself", 0, MovingList::new, x -> x.chance(1, 27));
        c.refused("from another that has nothing new", 1, MovingList::new, x -> x.chance(1, 17));
        then(7, 1, 2, 4);
        then(143, 1, 1, 16);
        then(47, 2, 0, 4);
        then(80, 2, 1, 10);
        MovingList x = new MovingList();
        Check.write(x, 0, "abc");
        c.due("to 1 from 0", 1, x.chance(1, 17));
        c.due("done there", 3, x.length(1));
        c.due("not at 2", 0, x.length(2));
    }

    /** Site 0 made forty ops, and shows one element. */
    private static MovingList forty() {
        MovingList x = new MovingList();
        x.insert(0, 0, 0);
        for (int k = 0; k < 39; k++) {
            x.change(0, 0, 1);
        }
        return x;
    }

    /** "(.. or it is refused: nothing.)": all that is told is drawn, then it is refused. */
    private void chanceDrawsAllForRefused() {
        int[][] rows = {{87, 1, 13}, {127, 2, 24}, {131, 2, 16}, {65, 2, 24}, {105, 1, 21},
            {39, 2, 12}, {72, 1, 18}, {66, 1, 9}, {86, 2, 2}};
        for (int[] row : rows) {
            MovingList x = forty();
            c.due("two chances of " + row[0], 1, x.chance(2, row[0]));
            c.due("site 0 made no more", 40, x.count(0, 5));
            c.due("its list is as it was", 1, x.length(0));
            c.due("the next chance", row[2], Check.at(x, row[1], 0, 1));
        }
    }

    private static MovingList four() {
        MovingList x = new MovingList();
        Check.write(x, 0, "abcd");
        return x;
    }

    /** "0 to 2 INSERT at a DRAW of one more than its LIST has, a DRAW of 26 the LETTER". */
    private void chanceInsertAtAnIndex() {
        // The seed, the index, the letter: kinds 0, 1, 2, at the front, within, at the end.
        int[][] rows = {{87, 0, 16}, {545, 2, 5}, {791, 4, 15}, {124, 0, 14}, {11, 3, 25},
            {94, 4, 22}, {25, 0, 24}, {171, 1, 10}, {961, 4, 22}};
        for (int[] row : rows) {
            MovingList x = four();
            MovingList y = four();
            c.due("chance", 1, x.chance(1, row[0]));
            c.due("an insert", 5, y.insert(0, row[1], row[2]));
            c.dueText("the same", Check.state(y), Check.state(x));
        }
    }

    /** "3 MOVE from a DRAW, to a DRAW of how many that has; 4 DROP, 5 CHANGE at such a DRAW". */
    private void chanceMoveDropChange() {
        int[][] moves = {{22, 3, 3}, {62, 3, 2}, {65, 1, 3}, {32, 2, 2}};
        for (int[] row : moves) {
            MovingList x = four();
            MovingList y = four();
            c.due("chance", 1, x.chance(1, row[0]));
            c.due("a move", 5, y.move(0, row[1], row[2]));
            c.dueText("the same", Check.state(y), Check.state(x));
        }
        int[][] drops = {{19, 1}, {29, 0}, {39, 3}};
        for (int[] row : drops) {
            MovingList x = four();
            MovingList y = four();
            c.due("chance", 1, x.chance(1, row[0]));
            c.due("a drop", 5, y.drop(0, row[1]));
            c.dueText("the same", Check.state(y), Check.state(x));
        }
        int[][] changes = {{23, 0, 4}, {26, 2, 21}, {36, 1, 6}};
        for (int[] row : changes) {
            MovingList x = four();
            MovingList y = four();
            c.due("chance", 1, x.chance(1, row[0]));
            c.due("a change", 5, y.change(0, row[1], row[2]));
            c.dueText("the same", Check.state(y), Check.state(x));
        }
    }

    /** "6 a DRAW of its WAITING ones is DELIVERED": it counts, whether done, held or old. */
    private void chanceDeliver() {
        int[][] rows = {{10, 2}, {53, 1}};
        for (int[] row : rows) {
            MovingList x = four();
            MovingList y = four();
            c.due("chance", 1, x.chance(1, row[0]));
            c.due("held", 0, y.deliver(1, row[1]));
            c.dueText("the same", Check.state(y), Check.state(x));
        }
        MovingList z = four();
        z.sync(0, 1);
        c.due("an old one", 1, z.chance(1, 10));
        c.dueText("waits no more", "1 2 4", Check.waiting(z, 1));
    }
}
