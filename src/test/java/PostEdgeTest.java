/**
 * The sentences of the second part of "Terms" (post, sync, tell, floor, sweep) that name a boundary
 * case, each with a test of its own: just inside, just outside, and what later calls show.
 */
public final class PostEdgeTest {
    private static final int LOW = Integer.MIN_VALUE;
    private static final int HIGH = Integer.MAX_VALUE;

    private final Check c = new Check();

    public static void main(String[] args) {
        PostEdgeTest t = new PostEdgeTest();
        t.toTheEndOfEachOther();
        t.sixtyWait();
        t.fullRowLosesForItselfAlone();
        t.lostOneIsMissed();
        t.twiceToSixty();
        t.whichOneIsDelivered();
        t.waitsNoMore();
        t.oldAsItIsDone();
        t.oldAsItIsHeld();
        t.oldAsSyncDidIt();
        t.needsForEachSite();
        t.needsOfItsOwnSite();
        t.firstHeldOneOnAndOn();
        t.heldAsTheyCame();
        t.heldWithoutBound();
        t.syncOfWhatItHasNot();
        t.syncPartly();
        t.syncThenHeldOnes();
        t.syncedOnesAreHeldNoMore();
        t.syncOfOneAndItself();
        t.syncLeavesTheRest();
        t.tellNeedsAllOps();
        t.tellAsItIsNow();
        t.tellToItself();
        t.tellOfHeldOnes();
        t.knowsNothingAtFirst();
        t.floorIsTheLeast();
        t.seenUpToTheFloor();
        t.sweepNeverTheHead();
        t.sweepOnlyWhatIsSeen();
        t.sweepBehindIt();
        t.sweepBehindItThatDidNotGo();
        t.sweepByADropThatIsSeen();
        t.sweepOfOneOfTwoDrops();
        t.sweepOfWhatWasMoved();
        t.sweepByTheLatestMoveAlone();
        t.sweepOfOneThatIsGoneButNotSeen();
        t.sweepAgain();
        t.sweepAtOneSite();
        t.opsBehindASweep();
        t.sweepOfTheLastOf200();
        t.forgotten();
        t.forgottenOnlyIfNoPlaceIsThere();
        t.c.end();
    }

    // ---- waiting

    /** "as an OP is made it comes to the end of the WAITING ones of each other SITE". */
    private void toTheEndOfEachOther() {
        MovingList x = new MovingList();
        x.insert(0, 0, 0);
        x.insert(2, 0, 0);
        x.insert(1, 0, 0);
        x.change(0, 0, 1);
        c.dueText("at 0", "201 101", Check.waiting(x, 0));
        c.dueText("at 1", "1 201 2", Check.waiting(x, 1));
        c.dueText("at 2", "1 101 2", Check.waiting(x, 2));
        c.due("in all", 8, x.all(2));
        MovingList y = new MovingList();
        y.sites(2);
        y.insert(1, 0, 0);
        c.dueText("of two sites the other one", "101", Check.waiting(y, 0));
        MovingList z = new MovingList();
        z.sites(5);
        z.insert(4, 0, 0);
        c.due("of five sites four", 4, z.all(2));
        c.dueText("not itself", "", Check.waiting(z, 4));
    }

    /** At site 1 forty ops of site 0 wait, and some of site 2. */
    private static MovingList waiting(int ofTwo) {
        MovingList x = new MovingList();
        for (int k = 0; k < 40; k++) {
            x.insert(0, k, k % 26);
        }
        for (int k = 0; k < ofTwo; k++) {
            x.insert(2, k, k);
        }
        return x;
    }

    /** "(60 at most; of a full row it is LOST)". */
    private void sixtyWait() {
        MovingList x = waiting(19);
        c.due("59 wait", 59, x.post(1, 0, -1));
        c.due("the 60th", 220, x.insert(2, 0, 0));
        c.due("60 wait", 60, x.post(1, 0, -1));
        c.due("it is the last one", 220, x.post(1, 0, 59));
        c.due("none lost", 0, x.all(4));
        c.due("the 61st is made all the same", 221, x.insert(2, 0, 0));
        c.due("60 wait", 60, x.post(1, 0, -1));
        c.due("the last one is as it was", 220, x.post(1, 0, 59));
        c.due("none such", -1, x.post(1, 0, 60));
        c.due("lost", 1, x.all(4));
        c.due("and again", 222, x.drop(2, 0));
        c.due("lost", 2, x.all(4));
        c.due("done at its own site", 22, x.vector(2, 2));
    }

    /** A row that is full loses for its own site, not for others. */
    private void fullRowLosesForItselfAlone() {
        MovingList x = waiting(20);
        c.due("made", 221, x.insert(2, 0, 0));
        c.due("site 0 gets it", 221, x.post(0, 0, 20));
        c.due("lost once", 1, x.all(4));
        c.due("one less waits", 1, x.deliver(1, 0));
        c.due("the next one", 222, x.insert(2, 0, 0));
        c.due("has room", 222, x.post(1, 0, 59));
        c.due("lost no more", 1, x.all(4));
        MovingList y = new MovingList();
        y.sites(5);
        for (int s = 0; s < 2; s++) {
            for (int k = 0; k < 30; k++) {
                y.insert(s, 0, 0);
            }
        }
        c.due("60 wait at three", 60, y.post(4, 0, -1));
        y.insert(0, 0, 0);
        c.due("three of four rows are full", 3, y.all(4));
        c.due("the fourth has it", 31, y.post(1, 0, 30));
    }

    /** What was lost of a full row is missed by those behind it, till a sync brings it. */
    private void lostOneIsMissed() {
        MovingList x = waiting(20);
        x.insert(2, 0, 0);
        x.lose(1, 0);
        x.insert(2, 0, 1);
        for (int k = 0; k < 20; k++) {
            c.due("done", 1, x.deliver(1, 39));
        }
        c.due("222 is held without 221", 0, x.deliver(1, 39));
        c.dueText("held", "222", Check.held(x, 1));
        c.due("lost: 221 of a full row, 1 by lose", 2, x.all(4));
        c.due("not settled without it", 62, x.settled(-1, 0));
        c.due("a sync brings both", 2, x.sync(2, 1));
        c.dueText("none held", "", Check.held(x, 1));
    }

    /** "It comes a second time, at the end; NONE .. 60 wait." */
    private void twiceToSixty() {
        MovingList x = waiting(19);
        c.due("59 wait", 1, x.twice(1, 0));
        c.due("60 wait", 60, x.post(1, 0, -1));
        c.due("at the end", 1, x.post(1, 0, 59));
        c.due("refused", -1, x.twice(1, 0));
        c.due("60 wait", 60, x.post(1, 0, -1));
        c.due("none is lost by it", 0, x.all(4));
        c.due("its last one goes", 1, x.lose(1, 59));
        c.due("so there is room", 219, x.twice(1, 58));
        c.due("at the end", 219, x.post(1, 0, 59));
    }

    // ---- delivered

    private static MovingList four() {
        MovingList x = new MovingList();
        Check.write(x, 0, "abcd");
        return x;
    }

    /** "The i-th WAITING OP (from 0)": for deliver, lose and twice. */
    private void whichOneIsDelivered() {
        c.due("the first one", 1, four().deliver(1, 0));
        c.due("the last one", 0, four().deliver(1, 3));
        c.due("the first one", 1, four().lose(1, 0));
        c.due("the last one", 4, four().lose(1, 3));
        c.due("the first one", 1, four().twice(1, 0));
        c.due("the last one", 4, four().twice(1, 3));
        for (int i : new int[] {-1, -2, 4, 5, 60, LOW, HIGH}) {
            c.refused("deliver " + i, -1, PostEdgeTest::four, x -> x.deliver(1, i));
            c.refused("lose " + i, -1, PostEdgeTest::four, x -> x.lose(1, i));
            c.refused("twice " + i, -1, PostEdgeTest::four, x -> x.twice(1, i));
        }
        for (int i : new int[] {-1, 0, 1}) {
            c.refused("deliver where none waits", -1, PostEdgeTest::four, x -> x.deliver(0, i));
            c.refused("lose where none waits", -1, PostEdgeTest::four, x -> x.lose(0, i));
            c.refused("twice where none waits", -1, PostEdgeTest::four, x -> x.twice(0, i));
        }
    }

    /** "(and WAITS no more)": whether done, held or old; those behind it move up. */
    private void waitsNoMore() {
        MovingList x = four();
        x.deliver(1, 1);
        c.dueText("held", "1 3 4", Check.waiting(x, 1));
        x.deliver(1, 0);
        c.dueText("done", "3 4", Check.waiting(x, 1));
        x.twice(1, 0);
        x.deliver(1, 0);
        c.dueText("done", "4 3", Check.waiting(x, 1));
        c.due("old", 0, x.deliver(1, 1));
        c.dueText("old", "4", Check.waiting(x, 1));
        c.due("the last one", 1, x.deliver(1, 0));
        c.dueText("none", "", Check.waiting(x, 1));
        c.due("none such", -1, x.deliver(1, 0));
        c.dueText("the other site is as it was", "1 2 3 4", Check.waiting(x, 2));
    }

    /** "it is OLD (nothing), if that SITE has DONE it". */
    private void oldAsItIsDone() {
        MovingList x = new MovingList();
        x.insert(0, 0, 0);
        x.move(0, 0, 0);
        x.change(0, 0, 7);
        for (int i = 0; i < 3; i++) {
            x.twice(1, i);
        }
        for (int i = 0; i < 3; i++) {
            c.due("done", 1, x.deliver(1, 0));
        }
        MovingList y = new MovingList();
        y.insert(0, 0, 0);
        y.move(0, 0, 0);
        y.change(0, 0, 7);
        for (int i = 0; i < 3; i++) {
            y.deliver(1, 0);
        }
        for (int i = 0; i < 3; i++) {
            c.due("old", 0, x.deliver(1, 0));
        }
        c.dueText("nothing", Check.state(y), Check.state(x));
        c.due("moved once", 1, x.at(1, 0, 3));
    }

    /** ".. or it is HELD there already". */
    private void oldAsItIsHeld() {
        MovingList x = four();
        x.twice(1, 2);
        x.twice(1, 2);
        c.due("held", 0, x.deliver(1, 2));
        c.dueText("held", "3", Check.held(x, 1));
        c.due("old", 0, x.deliver(1, 3));
        c.dueText("held once", "3", Check.held(x, 1));
        c.dueText("it waits once more", "1 2 4 3", Check.waiting(x, 1));
        x.deliver(1, 0);
        c.due("the second one and the third", 2, x.deliver(1, 0));
        c.due("the third is old now", 0, x.deliver(1, 1));
        c.dueText("and not held again", "", Check.held(x, 1));
        c.due("three are there", 3, x.length(1));
    }

    /** What a sync did is old as it comes. */
    private void oldAsSyncDidIt() {
        MovingList x = four();
        x.sync(0, 1);
        String was = Check.names(x, 1) + Check.places(x, 1);
        for (int i = 0; i < 4; i++) {
            c.due("old", 0, x.deliver(1, 3 - i));
        }
        c.dueText("nothing", was, Check.names(x, 1) + Check.places(x, 1));
        c.dueText("none held", "", Check.held(x, 1));
        c.due("vector", 4, x.vector(1, 0));
    }

    /** At site 3 (of 4) wait 1, 101, then 201, which needs one op of site 0 and one of site 1. */
    private static MovingList needing() {
        MovingList x = new MovingList();
        x.sites(4);
        x.insert(0, 0, 0);
        x.insert(1, 0, 1);
        x.sync(0, 2);
        x.sync(1, 2);
        x.insert(2, 0, 2);
        x.insert(0, 0, 3);
        return x;
    }

    /** "it is DONE, if VECTOR is no less than its NEEDS, for each SITE; else it is HELD". */
    private void needsForEachSite() {
        MovingList x = needing();
        c.dueText("needs", "1 1 0 0", Check.needs(x, 201));
        c.dueText("waiting", "1 101 201 2", Check.waiting(x, 3));
        c.due("without both", 0, x.deliver(3, 2));
        x = needing();
        x.deliver(3, 0);
        c.due("without that of site 1", 0, x.deliver(3, 1));
        c.dueText("held", "201", Check.held(x, 3));
        c.due("then that comes", 2, x.deliver(3, 0));
        x = needing();
        x.deliver(3, 1);
        c.due("without that of site 0", 0, x.deliver(3, 1));
        c.dueText("held", "201", Check.held(x, 3));
        x = needing();
        x.deliver(3, 0);
        x.deliver(3, 0);
        c.due("no less, for each", 1, x.deliver(3, 0));
        c.dueText("vector", "1 1 1 0", Check.vector(x, 3));
        x = needing();
        x.deliver(3, 0);
        x.deliver(3, 2);
        x.deliver(3, 0);
        c.dueText("more of site 0 than it needs", "2 1 0 0", Check.vector(x, 3));
        c.due("done too", 1, x.deliver(3, 0));
    }

    /** An op needs those that its own site made ahead of it. */
    private void needsOfItsOwnSite() {
        MovingList x = new MovingList();
        x.insert(0, 0, 0);
        x.insert(0, 0, 1);
        c.due("the second one alone is held", 0, x.deliver(1, 1));
        c.due("nothing is shown", 0, x.length(1));
        c.due("no place either", 1, x.count(1, 0));
        c.due("both", 2, x.deliver(1, 0));
        MovingList y = new MovingList();
        y.insert(0, 0, 0);
        y.insert(0, 0, 1);
        y.deliver(1, 0);
        c.due("behind the first one it is done", 1, y.deliver(1, 0));
    }

    /** "Behind each one that is DONE so the first HELD one .. that can be is DONE, on and on." */
    private void firstHeldOneOnAndOn() {
        MovingList x = new MovingList();
        Check.write(x, 0, "abcdefg");
        for (int i : new int[] {6, 4, 2, 1}) {
            c.due("held", 0, x.deliver(1, i));
        }
        c.dueText("held, as they came", "7 5 3 2", Check.held(x, 1));
        c.due("the first, 2 and 3", 3, x.deliver(1, 0));
        c.dueText("without 4 the others stay", "7 5", Check.held(x, 1));
        c.due("4 and 5", 2, x.deliver(1, 0));
        c.dueText("held", "7", Check.held(x, 1));
        c.due("6 and 7", 2, x.deliver(1, 0));
        c.dueText("none", "", Check.held(x, 1));
        c.dueText("letters", "abcdefg", Check.letters(x, 1));
    }

    /** Those that stay held stay in the order in which they came. */
    private void heldAsTheyCame() {
        MovingList x = new MovingList();
        Check.write(x, 0, "abc");
        Check.write(x, 1, "abc");
        // At site 2: 1 2 3 101 102 103.
        for (int i : new int[] {5, 1, 3, 1}) {
            x.deliver(2, i);
        }
        c.dueText("held, as they came", "103 2 102 3", Check.held(x, 2));
        c.due("1 lets 2 and 3 be done", 3, x.deliver(2, 0));
        c.dueText("the others stay", "103 102", Check.held(x, 2));
        c.due("101 lets the others", 3, x.deliver(2, 0));
        c.dueText("vector", "3 3 0", Check.vector(x, 2));
    }

    /** No bound is told for held ones: all that wait can be held. */
    private void heldWithoutBound() {
        MovingList x = waiting(20);
        x.lose(1, 40);
        x.lose(1, 0);
        for (int k = 0; k < 58; k++) {
            c.due("held", 0, x.deliver(1, 0));
        }
        for (int k = 0; k < 20; k++) {
            x.insert(2, 0, 0);
        }
        for (int k = 0; k < 20; k++) {
            c.due("held", 0, x.deliver(1, 0));
        }
        c.due("78 held", 78, x.post(1, 1, -1));
        c.due("in all", 78, x.all(3));
        c.due("the last one", 240, x.post(1, 1, 77));
        c.due("none behind it", -1, x.post(1, 1, 78));
        c.due("one of site 0 and 39 held ones", 40, x.sync(0, 1));
        c.due("one of site 2 and 39 held ones", 40, x.sync(2, 1));
        c.due("none held", 0, x.post(1, 1, -1));
        c.due("80 are there", 80, x.length(1));
    }

    // ---- sync

    /** "all OPS that the first one has DONE and the second one has not". */
    private void syncOfWhatItHasNot() {
        MovingList x = new MovingList();
        c.due("nothing made", 0, x.sync(0, 1));
        Check.write(x, 0, "ab");
        x.insert(1, 0, 2);
        c.due("two", 2, x.sync(0, 1));
        c.due("none that it has", 0, x.sync(0, 1));
        c.due("one the other way", 1, x.sync(1, 0));
        x.insert(0, 0, 3);
        c.due("one more", 1, x.sync(0, 1));
        c.due("ops of all that it has done", 4, x.sync(1, 2));
        c.dueText("vector", "3 1 0", Check.vector(x, 2));
        c.due("an older one behind nothing", 0, x.sync(2, 0));
    }

    /** What the first one has not done is not done by it. */
    private void syncPartly() {
        MovingList x = new MovingList();
        Check.write(x, 0, "abc");
        x.deliver(1, 0);
        x.deliver(1, 1);
        c.dueText("site 1 has one, and holds the third", "1 0 0", Check.vector(x, 1));
        c.due("one", 1, x.sync(1, 2));
        c.dueText("what is held is not synced", "1 0 0", Check.vector(x, 2));
        c.dueText("nor held there", "", Check.held(x, 2));
    }

    /** "then HELD ones likewise", which count too. */
    private void syncThenHeldOnes() {
        MovingList x = new MovingList();
        Check.write(x, 0, "abcdef");
        x.deliver(1, 0);
        x.deliver(1, 0);
        x.deliver(2, 5);
        x.deliver(2, 3);
        x.deliver(2, 2);
        c.dueText("held", "6 4 3", Check.held(x, 2));
        c.due("1 and 2, then 3 and 4", 4, x.sync(1, 2));
        c.dueText("6 stays", "6", Check.held(x, 2));
        c.due("5 and 6", 2, x.sync(0, 2));
        c.dueText("none", "", Check.held(x, 2));
    }

    /** "(those that are DONE by it are HELD no more)". */
    private void syncedOnesAreHeldNoMore() {
        MovingList x = new MovingList();
        Check.write(x, 0, "abcd");
        Check.write(x, 2, "ab");
        x.deliver(1, 5);
        x.deliver(1, 3);
        x.deliver(1, 1);
        c.dueText("held", "202 4 2", Check.held(x, 1));
        c.due("each once", 4, x.sync(0, 1));
        c.dueText("the other one stays", "202", Check.held(x, 1));
        c.due("in all", 1, x.all(3));
        c.due("201 and 202", 2, x.sync(2, 1));
        c.dueText("none", "", Check.held(x, 1));
        c.due("six", 6, x.length(1));
    }

    /** "NONE: others (one SITE and itself)". */
    private void syncOfOneAndItself() {
        for (int s = 0; s < 3; s++) {
            int site = s;
            c.refused("sync(" + s + ", " + s + ")", -1, PostEdgeTest::four,
                    x -> x.sync(site, site));
        }
        c.due("beside it", 4, four().sync(0, 1));
        c.due("beside it", 0, four().sync(1, 0));
    }

    /** A sync takes nothing from the waiting ones, tells nothing, and leaves the first one. */
    private void syncLeavesTheRest() {
        MovingList x = four();
        x.insert(1, 0, 9);
        x.sync(0, 1);
        c.dueText("they wait still", "1 2 3 4", Check.waiting(x, 1));
        c.dueText("the first one lacks 101", "4 0 0", Check.vector(x, 0));
        c.dueText("its row too is as it was", "101", Check.waiting(x, 0));
        c.dueText("nothing is known by it", "0 0 0", Check.known(x, 1, 0));
        c.due("none is lost", 0, x.all(4));
        c.dueText("the third one is as it was", "0 0 0", Check.vector(x, 2));
    }

    // ---- tell, knows, floor

    /** "if b has DONE all OPS of a (else it is refused)". */
    private void tellNeedsAllOps() {
        MovingList x = four();
        for (int k = 0; k < 3; k++) {
            x.deliver(1, 0);
            c.due("one is lacking still", false, x.tell(0, 1));
            c.dueText("nothing is known", "0 0 0", Check.known(x, 1, 0));
        }
        x.deliver(1, 0);
        c.due("all", true, x.tell(0, 1));
        c.dueText("known", "4 0 0", Check.known(x, 1, 0));
        x.insert(0, 0, 0);
        c.due("one more was made", false, x.tell(0, 1));
        c.dueText("what it knew stays", "4 0 0", Check.known(x, 1, 0));
        c.due("site 2 lacks all of these", false, x.tell(0, 2));
        c.due("but none of site 1, that made none", true, x.tell(1, 2));
        c.dueText("which has done four of site 0", "4 0 0", Check.known(x, 2, 1));
        c.dueText("of which site 2 itself has none", "0 0 0", Check.vector(x, 2));
        c.refused("a tell that is refused", 0, PostEdgeTest::four, y -> y.tell(0, 1) ? 1 : 0);
    }

    /** "b KNOWS the VECTOR of a, as it is now": not of another time, not of a third one. */
    private void tellAsItIsNow() {
        MovingList x = new MovingList();
        x.insert(1, 0, 0);
        c.due("nothing done there", true, x.tell(0, 2));
        c.dueText("known", "0 0 0", Check.known(x, 2, 0));
        x.sync(1, 0);
        c.dueText("it does not follow", "0 0 0", Check.known(x, 2, 0));
        c.due("again", true, x.tell(0, 2));
        c.dueText("as it is now", "0 1 0", Check.known(x, 2, 0));
        c.dueText("of the third one nothing", "0 0 0", Check.known(x, 2, 1));
        c.dueText("the first one learns nothing", "0 0 0", Check.known(x, 0, 2));
        c.dueText("its own vector is as it was", "0 0 0", Check.vector(x, 2));
        x.image(0);
        x.insert(1, 0, 0);
        x.sync(1, 0);
        x.tell(0, 2);
        c.dueText("more", "0 2 0", Check.known(x, 2, 0));
        x.back(0);
        c.dueText("as in the image", "0 1 0", Check.known(x, 2, 0));
    }

    /** A site has done all ops of its own; of itself it knows its vector before and after. */
    private void tellToItself() {
        MovingList x = four();
        c.due("itself", true, x.tell(0, 0));
        c.dueText("all is as it was", Check.state(four()), Check.state(x));
        x.insert(0, 0, 0);
        c.dueText("of itself the vector", "5 0 0", Check.known(x, 0, 0));
        c.due("no floor comes of it", 0, x.floor(0, 0));
    }

    /** One that is held is not done. */
    private void tellOfHeldOnes() {
        MovingList x = new MovingList();
        Check.write(x, 0, "ab");
        x.deliver(1, 1);
        c.due("held", false, x.tell(0, 1));
        x.deliver(1, 0);
        c.due("done", true, x.tell(0, 1));
    }

    /** "At first a SITE KNOWS of each other one that it has DONE nothing." */
    private void knowsNothingAtFirst() {
        for (int n = 2; n <= 5; n++) {
            MovingList x = new MovingList();
            x.sites(n);
            x.insert(0, 0, 0);
            Check.syncAll(x);
            for (int s = 0; s < n; s++) {
                for (int of = 0; of < n; of++) {
                    c.due("of " + of + " at " + s, of == s ? 1 : 0, x.knows(s, of, 0));
                }
            }
        }
    }

    /** "FLOOR .. for each SITE: the least of its own VECTOR and all that it KNOWS of others." */
    private void floorIsTheLeast() {
        MovingList x = new MovingList();
        x.sites(4);
        Check.write(x, 0, "abc");
        x.insert(3, 0, 3);
        c.dueText("nothing known", "0 0 0 0", Check.floor(x, 0));
        for (int s = 1; s < 4; s++) {
            for (int k = 0; k < s; k++) {
                x.deliver(s, 0);
            }
        }
        c.dueText("site 3", "3 0 0 1", Check.vector(x, 3));
        x.tell(1, 0);
        x.tell(2, 0);
        c.dueText("of site 3 nothing", "0 0 0 0", Check.floor(x, 0));
        c.due("refused, as 0 lacks an op of it", false, x.tell(3, 0));
        x.sync(3, 0);
        x.tell(3, 0);
        c.dueText("site 1 has the fewest", "1 0 0 0", Check.floor(x, 0));
        x.sync(0, 1);
        x.tell(1, 0);
        c.dueText("then site 2", "2 0 0 0", Check.floor(x, 0));
        x.sync(0, 2);
        x.tell(2, 0);
        c.dueText("all", "3 0 0 1", Check.floor(x, 0));
        x.insert(0, 0, 0);
        c.dueText("its own new one is not known of others", "3 0 0 1", Check.floor(x, 0));
        // Of others more is known than it has done itself.
        MovingList y = new MovingList();
        y.insert(2, 0, 0);
        y.sync(2, 1);
        y.tell(1, 0);
        c.dueText("known", "0 0 1", Check.known(y, 0, 1));
        c.due("its own vector is less", 0, y.floor(0, 2));
        y.deliver(0, 0);
        c.due("of site 2 nothing is known", 0, y.floor(0, 2));
        y.tell(2, 0);
        c.due("now", 1, y.floor(0, 2));
    }

    // ---- sweep

    /** "An OP is SEEN, if its NUMBER is no more than FLOOR for its SITE." */
    private void seenUpToTheFloor() {
        MovingList x = new MovingList();
        x.sites(2);
        Check.write(x, 0, "ab");
        x.drop(0, 1);
        x.drop(0, 0);
        for (int k = 0; k < 2; k++) {
            x.deliver(1, 0);
        }
        x.tell(1, 0);
        c.due("floor 2, the first drop is 3", 2, x.floor(0, 0));
        c.due("not seen", 0, x.count(0, 3));
        c.due("none goes", 0, x.sweep(0));
        x.deliver(1, 0);
        x.tell(1, 0);
        c.due("floor 3", 3, x.floor(0, 0));
        c.due("seen, but not the drop 4", 1, x.count(0, 3));
        c.due("one goes", 1, x.sweep(0));
        c.dueText("places", "0 1", Check.places(x, 0));
        x.deliver(1, 0);
        c.due("not told yet", 0, x.sweep(0));
        x.tell(1, 0);
        c.due("floor 4", 1, x.sweep(0));
        c.dueText("places", "0", Check.places(x, 0));
    }

    /** Two sites that have done all and know it, after some acts at site 0. */
    private static MovingList seen(String script) {
        MovingList x = new MovingList();
        x.sites(2);
        Check.script(x, script);
        Check.syncAll(x);
        x.tell(1, 0);
        x.tell(0, 1);
        return x;
    }

    /** "a PLACE, not the HEAD, can go". */
    private void sweepNeverTheHead() {
        MovingList x = new MovingList();
        c.due("nothing made", 0, x.sweep(0));
        c.dueText("the head", "0", Check.places(x, 0));
        MovingList y = seen("insert 0 0 a; drop 0 0;");
        c.due("the only one", 1, y.sweep(0));
        c.dueText("the head", "0", Check.places(y, 0));
        c.due("places", 1, y.count(0, 0));
        c.due("the list goes on from it", 3, y.insert(0, 0, 1));
        c.dueText("places", "0 3", Check.places(y, 0));
    }

    /** "if its OP is SEEN": a move that not all have done, of one whose drop all have done. */
    private void sweepOnlyWhatIsSeen() {
        MovingList x = new MovingList();
        Check.write(x, 0, "ab");
        Check.syncAll(x);
        x.move(1, 1, 0);
        x.drop(0, 1);
        x.sync(0, 1);
        x.sync(0, 2);
        x.sync(1, 0);
        x.tell(1, 0);
        x.tell(2, 0);
        c.dueText("the move is not done at 2", "3 0 0", Check.floor(x, 0));
        c.dueText("places", "0 101 1 2", Check.places(x, 0));
        c.due("the place of its insert alone", 1, x.sweep(0));
        c.dueText("places", "0 101 1", Check.places(x, 0));
        c.due("not forgotten", 2, x.count(0, 1));
        x.sync(0, 2);
        c.due("not known here", 0, x.sweep(0));
        x.tell(2, 0);
        c.due("that of the move", 1, x.sweep(0));
        c.dueText("places", "0 1", Check.places(x, 0));
        c.due("forgotten", 1, x.count(0, 1));
    }

    /** "no PLACE there was told behind it". */
    private void sweepBehindIt() {
        MovingList x = seen("insert 0 0 a; insert 0 1 b; drop 0 0;");
        c.due("b is behind it", 0, x.sweep(0));
        c.dueText("places", "0 1 2", Check.places(x, 0));
        MovingList y = seen("insert 0 0 a; insert 0 0 b; drop 0 1;");
        c.due("b is ahead of it, not behind", 1, y.sweep(0));
        c.dueText("places", "0 2", Check.places(y, 0));
        MovingList z = seen("insert 0 0 a; insert 0 1 b; insert 0 2 c; drop 0 1;");
        c.due("c is behind it, though b itself is in the middle", 0, z.sweep(0));
        MovingList v = seen("insert 0 0 a; insert 0 1 b; insert 0 1 c; drop 0 2;");
        c.dueText("both behind a", "0 1 3 2", Check.places(v, 0));
        c.due("the last one of two", 1, v.sweep(0));
        c.dueText("places", "0 1 3", Check.places(v, 0));
    }

    /** "(that did not go)", "All that can go go, on and on." */
    private void sweepBehindItThatDidNotGo() {
        MovingList x = seen("insert 0 0 a; insert 0 1 b; insert 0 2 c; insert 0 3 d;"
                + "drop 0 1; drop 0 1; drop 0 1;");
        c.due("so many would go", 3, x.count(0, 3));
        c.due("a row from its end on", 3, x.sweep(0));
        c.dueText("places", "0 1", Check.places(x, 0));
        MovingList y = seen("insert 0 0 a; insert 0 1 b; insert 0 2 c; insert 0 3 d;"
                + "drop 0 0; drop 0 0; drop 0 1;");
        c.dueText("c alone is left", "3", Check.names(y, 0));
        c.due("d goes, but c stays, with all that it is behind", 1, y.sweep(0));
        c.dueText("places", "0 1 2 3", Check.places(y, 0));
        c.due("c is moved to the front", 8, y.move(0, 0, 0));
        Check.syncAll(y);
        y.tell(1, 0);
        c.due("so all the others go", 3, y.sweep(0));
        c.dueText("places", "0 8", Check.places(y, 0));
        c.dueText("the list is as it was", "3", Check.names(y, 0));
    }

    /** "its ELEMENT is GONE by a DROP that is SEEN". */
    private void sweepByADropThatIsSeen() {
        MovingList x = seen("insert 0 0 a;");
        c.due("not gone", 0, x.sweep(0));
        x.drop(0, 0);
        c.due("gone, but not seen", 0, x.sweep(0));
        x.deliver(1, 1);
        c.due("done at 1, not told", 0, x.sweep(0));
        x.tell(1, 0);
        c.due("seen", 1, x.sweep(0));
        c.due("at 1 it is not known of 0", 0, x.sweep(1));
        x.tell(0, 1);
        c.due("seen at 1", 1, x.sweep(1));
    }

    /** Of two drops of one element one that is seen is enough. */
    private void sweepOfOneOfTwoDrops() {
        for (int which = 0; which < 2; which++) {
            MovingList x = new MovingList();
            x.insert(0, 0, 0);
            Check.syncAll(x);
            x.drop(0, 0);
            x.drop(1, 0);
            x.sync(which, 2);
            x.sync(1, 0);
            x.sync(0, 1);
            x.tell(1, 0);
            x.tell(2, 0);
            c.dueText("one drop is seen", which == 0 ? "2 0 0" : "1 1 0", Check.floor(x, 0));
            c.due("enough", 1, x.sweep(0));
        }
    }

    /** "or AT another PLACE by an OP that is SEEN". */
    private void sweepOfWhatWasMoved() {
        MovingList x = seen("insert 0 0 a; insert 0 1 b;");
        c.due("at its own place", 0, x.sweep(0));
        x.move(0, 1, 0);
        c.due("moved, but not seen", 0, x.sweep(0));
        x.sync(0, 1);
        x.tell(1, 0);
        c.due("seen", 1, x.sweep(0));
        c.dueText("the place of the move stays", "0 3 1", Check.places(x, 0));
        c.dueText("the list is as it was", "2 1", Check.names(x, 0));
        c.due("where it is", 3, x.at(0, 0, 2));
        c.due("moved", 1, x.at(0, 0, 3));
        MovingList y = seen("insert 0 0 a; move 0 0 0; move 0 0 0; move 0 0 0;");
        c.dueText("places", "0 4 3 2 1", Check.places(y, 0));
        c.due("all but the last", 3, y.sweep(0));
        c.dueText("places", "0 4", Check.places(y, 0));
    }

    /** The op by which it is there has to be seen, not one by which it was. */
    private void sweepByTheLatestMoveAlone() {
        MovingList x = seen("insert 0 0 a; move 0 0 0;");
        x.move(0, 0, 0);
        c.due("at the third place by an op that is not seen", 0, x.sweep(0));
        x.sync(0, 1);
        x.tell(1, 0);
        c.due("seen", 2, x.sweep(0));
        // A move that came from another site, and lost: its place is another than where it is.
        MovingList y = seen("insert 0 0 a; insert 0 1 b;");
        y.move(0, 1, 0);
        y.move(1, 1, 0);
        Check.syncAll(y);
        y.tell(1, 0);
        c.dueText("places", "0 101 3 1 2", Check.places(y, 0));
        c.due("that of the insert, and of the move that lost", 2, y.sweep(0));
        c.dueText("places", "0 101 1", Check.places(y, 0));
    }

    /** Gone by a drop that is not seen, but at another place by an op that is. */
    private void sweepOfOneThatIsGoneButNotSeen() {
        MovingList x = seen("insert 0 0 a; move 0 0 0;");
        x.drop(0, 0);
        c.due("its former place", 1, x.sweep(0));
        c.dueText("places", "0 2", Check.places(x, 0));
        c.due("gone, not forgotten", 1, x.count(0, 2));
        x.sync(0, 1);
        x.tell(1, 0);
        c.due("now the other one", 1, x.sweep(0));
        c.due("forgotten", 0, x.count(0, 1));
    }

    /** What went is not there to go again. */
    private void sweepAgain() {
        MovingList x = seen("insert 0 0 a; insert 0 1 b; drop 0 1;");
        c.due("one", 1, x.sweep(0));
        String was = Check.state(x);
        c.due("none", 0, x.sweep(0));
        c.dueText("nothing changes", was, Check.state(x));
        c.due("none would go", 0, x.count(0, 3));
    }

    /** count(.., 3) tells what would go, and lets nothing go; a sweep is of one site. */
    private void sweepAtOneSite() {
        MovingList x = seen("insert 0 0 a; insert 0 1 b; drop 0 1;");
        c.due("would go", 1, x.count(0, 3));
        c.due("is there still", 3, x.count(0, 0));
        x.sweep(0);
        c.due("went", 2, x.count(0, 0));
        c.due("at the other site it is there", 3, x.count(1, 0));
        c.due("and would go", 1, x.count(1, 3));
        c.due("lists are alike", 1, x.all(6));
        c.due("goes", 1, x.sweep(1));
    }

    /** Behind a sweep ops are made and come as ever. */
    private void opsBehindASweep() {
        MovingList x = seen("insert 0 0 a; insert 0 1 b; insert 0 2 c; drop 0 1; move 0 1 0;");
        c.dueText("places", "0 5 1 2 3", Check.places(x, 0));
        c.due("b and the old place of c", 2, x.sweep(0));
        c.dueText("places", "0 5 1", Check.places(x, 0));
        x.insert(1, 2, 4);
        x.insert(0, 2, 5);
        x.insert(1, 1, 6);
        Check.syncAll(x);
        c.dueText("at 0", "0 5 102 1 101 6", Check.places(x, 0));
        c.dueText("at 1, which did not sweep", "0 5 102 1 101 6 2 3", Check.places(x, 1));
        c.due("lists are alike", 1, x.all(6));
        c.dueText("found by an op ahead of it", "1 2 3", Check.found(x, 4));
        c.dueText("settled", "3 102 1 101 6", Check.settled(x));
    }

    /** As many places as there can be: 199 inserts in a row, and the last one moved to 0. */
    private void sweepOfTheLastOf200() {
        MovingList x = new MovingList();
        x.sites(5);
        for (int s = 0; s < 5; s++) {
            for (int k = 1; k <= 40; k++) {
                if (s == 4 && k == 40) {
                    c.due("the last op", 440, x.move(4, 198, 0));
                } else {
                    x.insert(s, 40 * s + k - 1, 0);
                }
            }
            x.sync(s, (s + 1) % 5);
        }
        for (int s = 1; s < 4; s++) {
            x.sync(0, s);
        }
        Check.tellAll(x, 0);
        c.due("places", 201, x.count(0, 0));
        c.due("the last one", 439, x.place(0, 200));
        c.due("none behind it", -1, x.place(0, 201));
        c.due("depth", 199, x.count(0, 7));
        c.due("elements", 199, x.length(0));
        c.due("would go", 1, x.count(0, 3));
        c.due("goes", 1, x.sweep(0));
        c.due("places", 200, x.count(0, 0));
        c.due("the last one", 438, x.place(0, 199));
        c.due("the last element", 438, x.at(0, 198, 0));
        c.due("the first element", 439, x.at(0, 0, 0));
    }

    /** "An ELEMENT that is GONE, of which no PLACE is there any more, is FORGOTTEN." */
    private void forgotten() {
        MovingList x = seen("insert 0 0 a; insert 0 1 b; move 0 1 0; drop 0 0;");
        c.dueText("ahead of it", "4 2 1 2 4 4 0 2", Check.join(8, what -> x.count(0, what)));
        c.due("both places of b", 2, x.sweep(0));
        c.dueText("behind it", "2 1 0 0 4 4 0 1", Check.join(8, what -> x.count(0, what)));
        c.dueText("not at the other site", "4 2 1 2 4 0 0 2",
                Check.join(8, what -> x.count(1, what)));
        c.due("its ops are there still", 2, x.op(3, 2));
        c.due("done", true, x.has(0, 3));
        MovingList y = seen("insert 0 0 a; insert 0 1 b; move 0 1 0; move 0 0 0; drop 0 0;");
        c.due("a move by which it is not where it was", 1, y.count(0, 6));
        y.sweep(0);
        c.due("forgotten with it", 0, y.count(0, 6));
        c.due("at the other site", 1, y.count(1, 6));
    }

    /** One that is gone is not forgotten, while one of its places is there. */
    private void forgottenOnlyIfNoPlaceIsThere() {
        MovingList x = seen("insert 0 0 a; insert 0 1 b; drop 0 0;");
        x.sweep(0);
        c.due("b keeps the place of a", 2, x.count(0, 1));
        c.due("which is gone", 1, x.count(0, 2));
        // Not gone: of b only the place of its move is left.
        MovingList y = seen("insert 0 0 a; insert 0 1 b; move 0 1 0; move 0 0 0;");
        c.due("two", 2, y.sweep(0));
        c.due("both elements", 2, y.count(0, 1));
        c.due("none gone", 0, y.count(0, 2));
        c.due("the move past is of one not forgotten", 1, y.count(0, 6));
    }
}
