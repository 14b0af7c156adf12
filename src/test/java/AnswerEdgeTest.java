/**
 * The promises, by their numbers: each sentence on an answer that names a boundary case which the
 * tests of the terms (TermsEdgeTest, PostEdgeTest, MadeEdgeTest, ScriptEdgeTest) do not have.
 */
public final class AnswerEdgeTest {
    private static final int LOW = Integer.MIN_VALUE;
    private static final int HIGH = Integer.MAX_VALUE;

    private final Check c = new Check();

    public static void main(String[] args) {
        AnswerEdgeTest t = new AnswerEdgeTest();
        t.newObject1();
        t.sitesAsAtFirst2();
        t.sitesAndThen2();
        t.sitesForgetsOpsOfLikeNames2();
        t.moveToWhereItIs4();
        t.dropAtAnIndex5();
        t.changeAtAnIndex6();
        t.changeToTheSameLetter6();
        t.lose10();
        t.twiceComesAtTheEnd11();
        t.lengthOfEach15();
        t.atIndexAndWhat16();
        t.atByWhatIsDoneThere16();
        t.indexOfWhatIsNotInTheList17();
        t.vectorOfItself18();
        t.knowsOfItself19();
        t.postRowsAndIndexes21();
        t.opWhat22();
        t.opNone22();
        t.needsOfOne23();
        t.ahead24();
        t.foundIndexes25();
        t.rivalsIndexes26();
        t.rivalsOfOneElement26();
        t.rivalsOfOpsThatAreNoMore26();
        t.hasDone27();
        t.countWhat28();
        t.countPastMoves28();
        t.countDepth28();
        t.placeIndexes29();
        t.unlikeLengths30();
        t.unlikeAtAnIndex30();
        t.edits31();
        t.editsAskedAgain31();
        t.editsOfLongLists31();
        t.settledIndexes32();
        t.allWhat37();
        t.allOneList37();
        t.allNotDone37();
        t.allOfTheFirstSite37();
        t.refusedAskedOften();
        t.c.end();
    }

    private static MovingList row(int n) {
        MovingList x = new MovingList();
        for (int k = 0; k < n; k++) {
            x.insert(0, k, k);
        }
        return x;
    }

    /** "3 SITES; an empty TAPE." */
    private void newObject1() {
        MovingList x = new MovingList();
        c.dueText("all", "3 0 0 0 0 0 1 0", Check.join(8, x::all));
        for (int s = 0; s < 3; s++) {
            int site = s;
            c.dueText("counts", "1 0 0 0 0 0 0 0", Check.join(8, what -> x.count(site, what)));
            c.dueText("vector", "0 0 0", Check.vector(x, s));
            c.dueText("floor", "0 0 0", Check.floor(x, s));
        }
        c.due("no fourth site", -1, x.length(3));
        c.due("no bytes", -1, x.script(1));
        c.due("no image", false, x.back(0) || x.back(1));
        // A second object is another one.
        x.insert(0, 0, 0);
        x.feed(0, 0, 0, 0, 0);
        c.dueText("another one", "3 0 0 0 0 0 1 0", Check.join(8, new MovingList()::all));
    }

    /** "true, all is as at first (no IMAGES; the TAPE stays)". */
    private void sitesAsAtFirst2() {
        for (int n = 2; n <= 5; n++) {
            MovingList fresh = new MovingList();
            fresh.sites(n);
            MovingList x = new MovingList();
            x.sites(5);
            x.chance(60, n);
            Check.syncAll(x);
            Check.tellAll(x, 1);
            x.sweep(1);
            x.lose(0, 0);
            x.insert(0, 0, 0);
            x.insert(0, 0, 0);
            for (int s = 1; s < 5; s++) {
                x.deliver(s, x.post(s, 0, -1) - 1);
            }
            c.due("held", 4, x.all(3));
            x.image(0);
            c.due("sites", true, x.sites(n));
            c.dueText("as at first", Check.state(fresh), Check.state(x));
        }
    }

    /** What comes behind sites() is as on a new object. */
    private void sitesAndThen2() {
        for (int n = 2; n <= 3; n++) {
            MovingList fresh = new MovingList();
            MovingList x = new MovingList();
            x.sites(5);
            x.chance(60, n);
            x.chance(60, n + 1);
            Check.syncAll(x);
            Check.tellAll(x, 0);
            x.sweep(0);
            for (MovingList y : new MovingList[] {fresh, x}) {
                y.sites(n);
                y.chance(25, 99);
                Check.syncAll(y);
                Check.tellAll(y, 0);
                y.sweep(0);
            }
            c.dueText("as on a new one", Check.state(fresh), Check.state(x));
        }
    }

    /** Ops and elements of names that were there ahead of sites() are others. */
    private void sitesForgetsOpsOfLikeNames2() {
        MovingList x = row(2);
        x.move(0, 0, 1);
        x.change(0, 0, 9);
        x.drop(0, 0);
        Check.syncAll(x);
        x.sites(3);
        c.due("an insert", 1, x.insert(0, 0, 4));
        c.due("a second one", 2, x.insert(0, 1, 5));
        c.due("not moved", 0, x.at(0, 0, 3));
        c.dueText("its own letters", "ef", Check.letters(x, 0));
        c.dueText("at their own places", "0 1 2", Check.places(x, 0));
        c.dueText("nothing at site 1", "1 0 0 0 0 0 0 0", Check.join(8, what -> x.count(1, what)));
        c.due("nor in its list", -1, x.index(1, 1));
        x.sync(0, 1);
        c.dueText("till it is done there", "3 2 0 0 2 0 0 2",
                Check.join(8, what -> x.count(1, what)));
        c.due("not moved there", 0, x.at(1, 0, 3));
    }

    /** "(Also to where it is.)": an op like any other. */
    private void moveToWhereItIs4() {
        for (int i = 0; i < 3; i++) {
            MovingList x = row(3);
            c.due("move", 4, x.move(0, i, i));
            c.dueText("names", "1 2 3", Check.names(x, 0));
            c.due("its place", 4, x.at(0, i, 2));
            c.due("behind the one ahead", i, x.op(4, 3));
            c.due("places", 5, x.count(0, 0));
            c.due("posted", 4, x.post(1, 0, 3));
        }
    }

    /** The index of a drop: the first, the last, beside these; on and on till none is left. */
    private void dropAtAnIndex5() {
        for (int i = 0; i < 3; i++) {
            MovingList x = row(3);
            c.due("drop", 4, x.drop(0, i));
            c.due("of the one at it", i + 1, x.op(4, 2));
            c.due("not in the list", -1, x.index(0, i + 1));
            c.due("two are left", 2, x.length(0));
        }
        for (int i : new int[] {-1, 3, 4, LOW, HIGH}) {
            c.refused("drop at " + i, -1, () -> row(3), x -> x.drop(0, i));
        }
        MovingList y = row(3);
        for (int k = 0; k < 3; k++) {
            c.due("drop", 4 + k, y.drop(0, 2 - k));
            c.due("none at that index then", -1, y.drop(0, 2 - k));
        }
        c.due("none", 0, y.length(0));
        c.due("six ops", 6, y.count(0, 5));
    }

    /** The index of a change. */
    private void changeAtAnIndex6() {
        for (int i = 0; i < 3; i++) {
            MovingList x = row(3);
            c.due("change", 4, x.change(0, i, 25));
            c.due("of the one at it", i + 1, x.op(4, 2));
            for (int k = 0; k < 3; k++) {
                c.due("letters", k == i ? 25 : k, x.at(0, k, 1));
            }
        }
        for (int i : new int[] {-1, 3, 4, LOW, HIGH}) {
            c.refused("change at " + i, -1, () -> row(3), x -> x.change(0, i, 1));
        }
        c.refused("of an empty list", -1, () -> row(3), x -> x.change(1, 0, 1));
    }

    /** "(Also to the LETTER that it is.)" */
    private void changeToTheSameLetter6() {
        MovingList x = row(1);
        c.due("change", 2, x.change(0, 0, 0));
        c.dueText("an op", "3 2 1 -1 0", Check.op(x, 2));
        c.due("posted", 2, x.post(1, 0, 1));
        c.due("clock", 2, x.count(0, 4));
    }

    /** "It is LOST: its NAME": of that row alone, once. */
    private void lose10() {
        MovingList x = row(3);
        x.twice(1, 1);
        c.due("lost", 2, x.lose(1, 1));
        c.dueText("the second one of it waits still", "1 3 2", Check.waiting(x, 1));
        c.due("lost", 1, x.all(4));
        c.due("done by that", 1, x.deliver(1, 0));
        c.due("then the last of the row", 1, x.deliver(1, 1));
        c.due("what is held is not to be lost", 3, x.lose(1, 0));
        c.due("none waits", -1, x.lose(1, 0));
        c.due("two are lost", 2, x.all(4));
        for (int k = 0; k < 3; k++) {
            c.due("all at 2", k + 1, x.lose(2, 0));
        }
        c.due("five are lost", 5, x.all(4));
        c.due("none is done at 2", 0, x.vector(2, 0));
    }

    /** "It comes a second time, at the end" (and may a third time). */
    private void twiceComesAtTheEnd11() {
        MovingList x = row(2);
        c.due("twice", 1, x.twice(1, 0));
        c.due("and again", 1, x.twice(1, 2));
        c.dueText("at the end", "1 2 1 1", Check.waiting(x, 1));
        c.due("no op was made", 2, x.all(1));
        c.due("done", 1, x.deliver(1, 3));
        c.due("old", 0, x.deliver(1, 2));
        c.due("old", 0, x.deliver(1, 0));
        c.due("done", 1, x.deliver(1, 0));
    }

    /** Of each site its own. */
    private void lengthOfEach15() {
        MovingList x = new MovingList();
        x.sites(5);
        for (int s = 0; s < 5; s++) {
            for (int k = 0; k < s; k++) {
                x.insert(s, 0, 0);
            }
        }
        for (int s = 0; s < 5; s++) {
            c.due("length", s, x.length(s));
        }
    }

    /** "NoSuchElementException: others, none such." */
    private void atIndexAndWhat16() {
        MovingList x = row(2);
        for (int what = 0; what < 4; what++) {
            c.due("the first one", new int[] {1, 0, 1, 0}[what], x.at(0, 0, what));
            c.due("the last one", new int[] {2, 1, 2, 0}[what], x.at(0, 1, what));
            for (int i : new int[] {-1, 2, 3, LOW, HIGH}) {
                c.dueNoElement("at " + i, x, 0, i, what);
            }
            c.dueNoElement("of an empty list", x, 1, 0, what);
            c.dueNoElement("of no site", x, 3, 0, what);
            c.dueNoElement("of no site", x, -1, 0, what);
        }
        for (int what : new int[] {-1, 4, 5, LOW, HIGH}) {
            c.dueNoElement("what " + what, x, 0, 0, what);
            c.dueNoElement("what " + what, x, 0, 1, what);
        }
        c.dueText("nothing changes", Check.state(row(2)), Check.state(x));
        x.drop(0, 1);
        c.dueNoElement("dropped", x, 0, 1, 0);
    }

    /** "how often it was MOVED (by what is DONE there)", also by moves that lost. */
    private void atByWhatIsDoneThere16() {
        MovingList x = row(2);
        Check.syncAll(x);
        x.move(0, 0, 1);
        x.move(1, 0, 1);
        x.move(1, 1, 0);
        c.due("one here", 1, x.at(0, 1, 3));
        c.due("two there", 2, x.at(1, 0, 3));
        c.due("none at 2", 0, x.at(2, 0, 3));
        x.deliver(2, 3);
        c.due("one at 2", 1, x.at(2, x.index(2, 1), 3));
        Check.syncAll(x);
        for (int s = 0; s < 3; s++) {
            c.due("three in all", 3, x.at(s, x.index(s, 1), 3));
            c.due("the other one none", 0, x.at(s, x.index(s, 2), 3));
        }
    }

    /** "NONE: others, it is not in the LIST." */
    private void indexOfWhatIsNotInTheList17() {
        MovingList x = row(3);
        x.move(0, 2, 0);
        x.change(0, 0, 9);
        x.drop(0, 1);
        c.due("3 is the first", 0, x.index(0, 3));
        c.due("2 is the last", 1, x.index(0, 2));
        c.due("1 is gone", -1, x.index(0, 1));
        c.due("a move", -1, x.index(0, 4));
        c.due("a change", -1, x.index(0, 5));
        c.due("a drop", -1, x.index(0, 6));
        c.due("none such", -1, x.index(0, 7));
        c.due("the head", -1, x.index(0, 0));
        c.due("not done there", -1, x.index(1, 3));
        x.deliver(1, 2);
        c.due("held there", -1, x.index(1, 3));
        Check.syncAll(x);
        c.due("done there", 0, x.index(1, 3));
        Check.tellAll(x, 0);
        x.sweep(0);
        c.due("forgotten or not, 1 is gone", -1, x.index(0, 1));
        c.due("3 is where it was", 0, x.index(0, 3));
    }

    /** "for another one, or itself". */
    private void vectorOfItself18() {
        MovingList x = row(2);
        x.insert(2, 0, 0);
        x.sync(0, 2);
        c.dueText("at 0", "2 0 0", Check.vector(x, 0));
        c.dueText("at 1", "0 0 0", Check.vector(x, 1));
        c.dueText("at 2", "2 0 1", Check.vector(x, 2));
    }

    /** "(of itself: VECTOR)". */
    private void knowsOfItself19() {
        MovingList x = row(2);
        c.dueText("of itself", "2 0 0", Check.known(x, 0, 0));
        x.insert(1, 0, 0);
        x.deliver(0, 0);
        c.dueText("of itself, as it is now", "2 1 0", Check.known(x, 0, 0));
        c.dueText("of another", "0 0 0", Check.known(x, 0, 1));
        x.tell(1, 0);
        c.dueText("of another, as it was told", "0 1 0", Check.known(x, 0, 1));
        x.deliver(1, 0);
        c.dueText("it stays so", "0 1 0", Check.known(x, 0, 1));
    }

    /** "Of the i-th WAITING OP (row 0), HELD one (1), its NAME; how many (i NONE)". */
    private void postRowsAndIndexes21() {
        MovingList x = row(4);
        x.deliver(1, 3);
        x.deliver(1, 2);
        c.due("waiting", 2, x.post(1, 0, -1));
        c.due("the first one", 1, x.post(1, 0, 0));
        c.due("the last one", 2, x.post(1, 0, 1));
        c.due("held", 2, x.post(1, 1, -1));
        c.due("the first one", 4, x.post(1, 1, 0));
        c.due("the last one", 3, x.post(1, 1, 1));
        for (int i : new int[] {-2, 2, 3, 60, LOW, HIGH}) {
            c.due("waiting " + i, -1, x.post(1, 0, i));
            c.due("held " + i, -1, x.post(1, 1, i));
        }
        for (int row : new int[] {-1, 2, 3, LOW, HIGH}) {
            c.due("row " + row, -1, x.post(1, row, -1));
            c.due("row " + row, -1, x.post(1, row, 0));
        }
        c.due("none waits", 0, x.post(0, 0, -1));
        c.due("none such", -1, x.post(0, 0, 0));
        c.due("none held", 0, x.post(0, 1, -1));
        c.due("none such", -1, x.post(0, 1, 0));
    }

    /** "-2: others, none such." */
    private void opWhat22() {
        MovingList x = row(1);
        c.dueText("an insert", "0 1 1 0 0", Check.op(x, 1));
        for (int what : new int[] {-1, 5, 6, -2, LOW, HIGH}) {
            c.due("what " + what, -2, x.op(1, what));
            c.due("neither", -2, x.op(2, what));
        }
        for (int what = 0; what < 5; what++) {
            c.due("none such", -2, x.op(2, what));
            c.due("the head is no op", -2, x.op(0, what));
            c.due("none of site 1", -2, x.op(101, what));
        }
    }

    /** "the PLACE it was told behind (NONE: DROP, CHANGE)", "LETTER (NONE: MOVE, DROP)". */
    private void opNone22() {
        MovingList x = row(2);
        x.move(0, 0, 1);
        x.change(0, 0, 5);
        x.drop(0, 0);
        c.dueText("an insert behind the head", "0 1 1 0 0", Check.op(x, 1));
        c.dueText("an insert behind another", "0 2 2 1 1", Check.op(x, 2));
        c.dueText("a move has no letter", "1 3 1 2 -1", Check.op(x, 3));
        c.dueText("a change has no place", "3 4 2 -1 5", Check.op(x, 4));
        c.dueText("a drop has neither", "2 5 2 -1 -1", Check.op(x, 5));
        x.move(0, 0, 0);
        c.due("a move behind the head", 0, x.op(6, 3));
    }

    /** "Its NEEDS for a SITE": up to 40, and none of sites that it has nothing of. */
    private void needsOfOne23() {
        MovingList x = new MovingList();
        x.sites(2);
        for (int k = 1; k <= 40; k++) {
            x.insert(0, 0, 0);
            c.due("one less than its number", k - 1, x.needs(k, 0));
        }
        x.sync(0, 1);
        x.insert(1, 0, 0);
        c.due("all forty", 40, x.needs(101, 0));
        c.due("none of its own", 0, x.needs(101, 1));
        c.due("no third site", -1, x.needs(101, 2));
        c.due("no such op", -1, x.needs(102, 0));
    }

    /** "0: the first one is among the NEEDS of the second one, 1 .., 2: neither, 3: one". */
    private void ahead24() {
        MovingList x = row(3);
        x.deliver(1, 0);
        x.deliver(1, 0);
        x.insert(1, 0, 0);
        c.due("the last one that it needs", 0, x.ahead(2, 101));
        c.due("one more", 2, x.ahead(3, 101));
        c.due("the other way round", 1, x.ahead(101, 2));
        c.due("neither way", 2, x.ahead(101, 3));
        c.due("one", 3, x.ahead(3, 3));
        c.due("neighbours", 0, x.ahead(2, 3));
        c.due("neighbours", 1, x.ahead(3, 2));
        x.sync(1, 2);
        x.insert(2, 0, 0);
        c.due("by way of another site", 0, x.ahead(1, 201));
        c.due("not what that site had not done", 2, x.ahead(3, 201));
        c.due("no op", -1, x.ahead(4, 4));
        c.due("no op", -1, x.ahead(0, 1));
        c.due("no op", -1, x.ahead(1, 0));
    }

    /** found: "the i-th ELEMENT; how many (i NONE); NONE: others, none such". */
    private void foundIndexes25() {
        MovingList x = row(3);
        c.due("how many", 2, x.found(3, -1));
        c.due("the first one", 1, x.found(3, 0));
        c.due("the last one", 2, x.found(3, 1));
        for (int i : new int[] {-2, 2, 3, LOW, HIGH}) {
            c.due("found " + i, -1, x.found(3, i));
        }
        c.due("no such op", -1, x.found(4, -1));
        c.due("no such op", -1, x.found(4, 0));
        c.due("none found", 0, x.found(1, -1));
        c.due("none such", -1, x.found(1, 0));
    }

    /** rivals: "the i-th by NAMES, upwards; how many (i NONE); NONE: others, none such". */
    private void rivalsIndexes26() {
        MovingList x = new MovingList();
        x.sites(5);
        x.insert(2, 0, 0);
        Check.syncAll(x);
        for (int s = 4; s >= 0; s--) {
            x.change(s, 0, s);
            x.move(s, 0, 0);
        }
        c.dueText("of 1", "101 102 202 203 301 302 401 402", Check.rivals(x, 1));
        c.dueText("of 203", "1 2 101 102 301 302 401 402", Check.rivals(x, 203));
        c.dueText("of the insert none", "", Check.rivals(x, 201));
        for (int i : new int[] {-2, 8, 9, LOW, HIGH}) {
            c.due("rivals " + i, -1, x.rivals(1, i));
        }
        c.due("none such", -1, x.rivals(201, 0));
        c.due("no op", -1, x.rivals(3, -1));
        c.due("no op", -1, x.rivals(0, -1));
    }

    /** "OPS of one ELEMENT with an OP that are CONCURRENT with it". */
    private void rivalsOfOneElement26() {
        MovingList x = row(2);
        Check.syncAll(x);
        x.drop(0, 0);
        x.move(1, 0, 1);
        x.change(1, 0, 9);
        x.drop(2, 0);
        x.insert(2, 0, 3);
        c.dueText("of the drop of a", "101 201", Check.rivals(x, 3));
        c.dueText("of the change of b none", "", Check.rivals(x, 102));
        c.dueText("of the insert none", "", Check.rivals(x, 202));
        x.sync(0, 2);
        x.sync(1, 2);
        c.dueText("it stays so, once all are done", "101 201", Check.rivals(x, 3));
    }

    /** Ops that were made ahead of sites() or back() are none any more. */
    private void rivalsOfOpsThatAreNoMore26() {
        MovingList x = row(1);
        x.image(0);
        x.sync(0, 1);
        x.change(0, 0, 3);
        x.change(1, 0, 4);
        x.drop(1, 0);
        c.dueText("two", "101 102", Check.rivals(x, 2));
        x.back(0);
        x.change(0, 0, 5);
        c.dueText("none", "", Check.rivals(x, 2));
        x.sync(0, 1);
        x.insert(1, 0, 0);
        c.dueText("none of another element", "", Check.rivals(x, 2));
        MovingList y = row(1);
        y.sync(0, 1);
        y.change(0, 0, 3);
        y.change(1, 0, 4);
        y.drop(1, 0);
        c.dueText("two", "101 102", Check.rivals(y, 2));
        y.sites(3);
        y.insert(0, 0, 0);
        y.change(0, 0, 5);
        c.dueText("none", "", Check.rivals(y, 2));
        y.sync(0, 1);
        y.change(1, 0, 6);
        c.dueText("none, as it needs that one", "", Check.rivals(y, 2));
        y.change(0, 0, 7);
        c.dueText("one", "101", Check.rivals(y, 3));
    }

    /** has: done or not, held, lost; "false: others, too". */
    private void hasDone27() {
        MovingList x = row(3);
        for (int k = 1; k <= 3; k++) {
            c.due("made", true, x.has(0, k));
            c.due("waits", false, x.has(1, k));
        }
        c.due("not made", false, x.has(0, 4));
        x.deliver(1, 0);
        x.deliver(1, 1);
        c.due("done", true, x.has(1, 1));
        c.due("waits", false, x.has(1, 2));
        c.due("held", false, x.has(1, 3));
        x.lose(2, 0);
        c.due("lost", false, x.has(2, 1));
        x.sync(0, 2);
        c.due("synced", true, x.has(2, 1) && x.has(2, 3));
        x.sites(3);
        c.due("all is as at first", false, x.has(0, 1));
    }

    /** count: "NONE: others". */
    private void countWhat28() {
        MovingList x = row(2);
        c.dueText("counts", "3 2 0 0 2 2 0 2", Check.join(8, what -> x.count(0, what)));
        for (int what : new int[] {-1, 8, 9, LOW, HIGH}) {
            c.due("what " + what, -1, x.count(0, what));
        }
        for (int what = 0; what < 8; what++) {
            c.due("no site", -1, x.count(3, what));
            c.due("no site", -1, x.count(-1, what));
        }
    }

    /** "6: MOVES DONE there by which their ELEMENT is not AT (it is not FORGOTTEN)". */
    private void countPastMoves28() {
        MovingList x = row(2);
        x.sync(0, 1);
        c.due("none", 0, x.count(0, 6));
        x.move(0, 0, 1);
        c.due("it is at that one", 0, x.count(0, 6));
        x.move(0, 0, 1);
        c.due("each at its own", 0, x.count(0, 6));
        x.move(0, 0, 1);
        c.due("one past", 1, x.count(0, 6));
        x.move(1, 0, 0);
        x.sync(1, 0);
        c.due("one that came and lost", 2, x.count(0, 6));
        c.due("none at 1", 0, x.count(1, 6));
        x.drop(0, 0);
        x.drop(0, 0);
        c.due("gone, not forgotten", 2, x.count(0, 6));
    }

    /** "7: how deep PLACES lie at most behind one another (the HEAD alone: 0)". */
    private void countDepth28() {
        MovingList x = new MovingList();
        c.due("the head alone", 0, x.count(0, 7));
        x.insert(0, 0, 0);
        c.due("one behind it", 1, x.count(0, 7));
        x.insert(0, 0, 0);
        c.due("two right behind it", 1, x.count(0, 7));
        x.insert(0, 2, 0);
        c.due("one behind one of these", 2, x.count(0, 7));
        x.move(0, 0, 2);
        c.due("and one behind that", 3, x.count(0, 7));
        x.drop(0, 2);
        c.due("gone, its place is there", 3, x.count(0, 7));
        c.due("at its own site", 0, x.count(1, 7));
        for (int s = 1; s < 3; s++) {
            x.sync(0, s);
            x.tell(s, 0);
        }
        c.due("both places of 2 go", 2, x.sweep(0));
        c.due("then it is less", 2, x.count(0, 7));
        c.due("not where none was swept", 3, x.count(1, 7));
    }

    /** "The i-th PLACE in ORDER (0: the HEAD)". */
    private void placeIndexes29() {
        MovingList x = row(2);
        c.due("the head", 0, x.place(0, 0));
        c.due("the first one", 1, x.place(0, 1));
        c.due("the last one", 2, x.place(0, 2));
        for (int i : new int[] {-1, 3, 4, LOW, HIGH}) {
            c.due("place " + i, -1, x.place(0, i));
        }
        c.due("the head of an empty one", 0, x.place(1, 0));
        c.due("none behind it", -1, x.place(1, 1));
    }

    /** "of unlike lengths each beyond the shorter one, too". */
    private void unlikeLengths30() {
        MovingList x = row(3);
        c.due("one is empty", 3, x.unlike(0, 1));
        c.due("the other way round", 3, x.unlike(1, 0));
        c.due("both are empty", 0, x.unlike(1, 2));
        x.deliver(1, 0);
        x.deliver(1, 0);
        c.due("one beyond", 1, x.unlike(0, 1));
        c.due("the other way round", 1, x.unlike(1, 0));
        x.insert(1, 0, 9);
        c.due("all, as they are shifted", 3, x.unlike(0, 1));
        x.insert(1, 0, 9);
        c.due("and one beyond", 4, x.unlike(0, 1));
        c.due("one and itself", 0, x.unlike(1, 1));
    }

    /** "(NAMES ..)": not letters, not places. */
    private void unlikeAtAnIndex30() {
        MovingList x = row(3);
        Check.syncAll(x);
        c.due("alike", 0, x.unlike(0, 1));
        x.change(0, 1, 20);
        x.move(0, 0, 0);
        c.due("other letters, other places", 0, x.unlike(0, 1));
        x.drop(0, 2);
        x.insert(0, 2, 2);
        c.due("a like letter, another name", 1, x.unlike(0, 1));
        x.move(0, 0, 2);
        c.due("shifted", 3, x.unlike(0, 1));
    }

    /** "The fewest ELEMENTS that are to be taken from, put into the LIST of a SITE". */
    private void edits31() {
        MovingList x = row(4);
        c.due("both are empty", 0, x.edits(1, 2));
        c.due("all taken", 4, x.edits(0, 1));
        c.due("all put in", 4, x.edits(1, 0));
        x.deliver(1, 0);
        c.due("three put in", 3, x.edits(1, 0));
        Check.syncAll(x);
        c.due("alike", 0, x.edits(0, 1));
        x.change(1, 0, 20);
        c.due("letters do not count", 0, x.edits(0, 1));
        x.move(1, 3, 0);
        c.due("one taken and put in elsewhere", 2, x.edits(0, 1));
        x.move(1, 3, 0);
        c.dueText("names", "3 4 1 2", Check.names(x, 1));
        c.due("two", 4, x.edits(0, 1));
        x.drop(0, 0);
        c.due("2 is taken, 1 and 2 are put in", 3, x.edits(0, 1));
        c.due("the other way round", 3, x.edits(1, 0));
        c.due("one and itself", 0, x.edits(1, 1));
    }

    /** What was asked ahead of it, of other lists, does not matter. */
    private void editsAskedAgain31() {
        MovingList x = row(4);
        x.sync(0, 1);
        c.due("alike", 0, x.edits(0, 1));
        x.drop(1, 3);
        c.due("the last one is put in", 1, x.edits(1, 0));
        c.due("the last one is taken", 1, x.edits(0, 1));
        c.due("elements", 4, x.count(0, 1));
        c.due("of an empty one all", 4, x.edits(0, 2));
        c.due("depth", 4, x.count(0, 7));
        c.due("of an empty one all", 4, x.edits(0, 2));
        c.due("depth", 4, x.count(0, 7));
    }

    /** Lists of as many elements as there can be. */
    private void editsOfLongLists31() {
        MovingList x = new MovingList();
        x.sites(5);
        for (int s = 0; s < 5; s++) {
            for (int k = 0; k < 40; k++) {
                x.insert(s, 0, 0);
            }
        }
        c.due("nothing in common", 80, x.edits(0, 1));
        for (int s = 1; s < 5; s++) {
            x.sync(s, 0);
        }
        c.due("two hundred", 200, x.length(0));
        c.due("all but its own", 160, x.edits(0, 1));
        c.due("all but its own", 160, x.edits(4, 0));
        x.sync(0, 4);
        c.due("alike", 0, x.edits(0, 4));
        c.due("alike", 0, x.unlike(0, 4));
    }

    /** settled: "the i-th ELEMENT's NAME (what 0), its LETTER (1); how many (i NONE)". */
    private void settledIndexes32() {
        MovingList x = row(2);
        c.due("how many", 2, x.settled(-1, 0));
        c.due("how many", 2, x.settled(-1, 1));
        c.due("the first one", 1, x.settled(0, 0));
        c.due("the last one", 2, x.settled(1, 0));
        c.due("the first letter", 0, x.settled(0, 1));
        c.due("the last letter", 1, x.settled(1, 1));
        for (int what = 0; what < 2; what++) {
            for (int i : new int[] {-2, 2, 3, LOW, HIGH}) {
                c.due("settled " + i, -1, x.settled(i, what));
            }
        }
        for (int what : new int[] {-1, 2, 3, LOW, HIGH}) {
            c.due("what " + what, -1, x.settled(0, what));
            c.due("what " + what, -1, x.settled(2, what));
            c.due("what " + what, -1, x.settled(-1, what));
        }
    }

    /** all: "NONE for another what". */
    private void allWhat37() {
        MovingList x = row(2);
        x.deliver(1, 1);
        x.lose(2, 0);
        x.feed(0, 0, 0, 0, 0);
        c.dueText("all", "3 2 2 1 1 20 0 2", Check.join(8, x::all));
        for (int what : new int[] {-1, 8, 9, LOW, HIGH}) {
            c.due("what " + what, -1, x.all(what));
        }
    }

    /** "6: 1, if all SITES show one LIST (NAMES and LETTERS)". */
    private void allOneList37() {
        for (int n = 2; n <= 5; n++) {
            MovingList x = new MovingList();
            x.sites(n);
            c.due("all are empty", 1, x.all(6));
            x.insert(0, 0, 0);
            x.insert(0, 1, 1);
            c.due("one has two", 0, x.all(6));
            for (int s = 1; s < n; s++) {
                c.due("site " + s + " lacks them", 0, x.all(6));
                x.sync(0, s);
            }
            c.due("all have them", 1, x.all(6));
            for (int i = 0; i < 2; i++) {
                x.change(n - 1, i, 5);
                c.due("another letter at the last site", 0, x.all(6));
                x.change(n - 1, i, i);
                c.due("one list, by other ops", 1, x.all(6));
            }
            x.move(n - 1, 1, 1);
            c.due("one list, by other places", 1, x.all(6));
            x.move(n - 1, 1, 0);
            c.due("in another order", 0, x.all(6));
        }
    }

    /** "7: OPS that some SITE has not DONE". */
    private void allNotDone37() {
        MovingList x = new MovingList();
        x.sites(4);
        c.due("none made", 0, x.all(7));
        x.insert(3, 0, 0);
        c.due("one", 1, x.all(7));
        x.deliver(0, 0);
        x.deliver(1, 0);
        c.due("site 2 has not", 1, x.all(7));
        x.insert(0, 0, 0);
        c.due("two", 2, x.all(7));
        x.deliver(2, 0);
        c.due("the first one is done by all", 1, x.all(7));
        x.sync(0, 1);
        x.sync(0, 2);
        c.due("site 3 has not", 1, x.all(7));
        x.lose(3, 0);
        c.due("lost is not done", 1, x.all(7));
        x.sync(2, 3);
        c.due("all", 0, x.all(7));
    }

    /** What waits, is held or is not done at site 0 counts as what is elsewhere. */
    private void allOfTheFirstSite37() {
        MovingList x = new MovingList();
        x.sites(2);
        x.insert(1, 0, 0);
        x.insert(1, 0, 0);
        c.due("two wait", 2, x.all(2));
        c.due("two are not done", 2, x.all(7));
        x.deliver(0, 1);
        c.due("one waits", 1, x.all(2));
        c.due("one is held", 1, x.all(3));
        x.deliver(0, 0);
        c.due("none is held", 0, x.all(3));
        c.due("all are done", 0, x.all(7));
    }

    /** Refused calls leave no trace, however many come. */
    private void refusedAskedOften() {
        c.refused("many", -1, () -> row(2), x -> {
            for (int k = 0; k < 20; k++) {
                x.insert(0, 3, 0);
                x.move(0, 2, 0);
                x.drop(0, 2);
                x.change(0, 0, 26);
                x.revert(1);
                x.chance(0, k);
                x.deliver(1, 2);
                x.lose(0, 0);
                x.twice(0, 0);
                x.sync(0, 0);
                x.tell(0, 1);
                x.back(0);
            }
            return x.sweep(3);
        });
    }
}
