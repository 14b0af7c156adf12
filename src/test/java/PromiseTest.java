/** For each promise of the document, by its number: ordinary inputs, edges, wrong inputs. */
public final class PromiseTest {
    private static final int LOW = Integer.MIN_VALUE;
    private static final int HIGH = Integer.MAX_VALUE;
    private static final int[] NO_SITES = {-1, 3, 5, LOW, HIGH};

    private final Check c = new Check();

    public static void main(String[] args) {
        PromiseTest t = new PromiseTest();
        t.newObject1();
        t.sites2();
        t.insert3();
        t.insertOrder3();
        t.move4();
        t.latestMoveWins4();
        t.drop5();
        t.change6();
        t.revertInsertChange7();
        t.revertMove7();
        t.revertDrop7();
        t.revertRefused7();
        t.chance8();
        t.chanceKinds8();
        t.deliver9();
        t.lose10();
        t.twice11();
        t.fullRow11();
        t.sync12();
        t.syncHeld12();
        t.tell13();
        t.sweep14();
        t.sweepUnseen14();
        t.length15();
        t.at16();
        t.index17();
        t.vector18();
        t.knows19();
        t.floor20();
        t.post21();
        t.op22();
        t.needs23();
        t.ahead24();
        t.found25();
        t.rivals26();
        t.has27();
        t.count28();
        t.countForgotten28();
        t.place29();
        t.unlike30();
        t.edits31();
        t.settled32();
        t.feed33();
        t.scriptDeeds34();
        t.scriptFaults34();
        t.scriptTape34();
        t.image35();
        t.back36();
        t.backToOtherOps36();
        t.all37();
        t.allOfEach37();
        t.forty();
        t.c.end();
    }

    private void newObject1() {
        MovingList x = new MovingList();
        c.due("1 NONE", -1, MovingList.NONE);
        c.due("1 sites", 3, x.all(0));
        c.due("1 tape", 0, x.all(5));
        for (int s = 0; s < 3; s++) {
            c.due("1 length", 0, x.length(s));
            c.due("1 clock", 0, x.count(s, 4));
            c.dueText("1 places", "0", Check.places(x, s));
        }
        c.due("1 no ops", 0, x.all(1));
        c.due("1 no image", false, x.back(0));
        c.due("1 site 3", -1, x.length(3));
    }

    private void sites2() {
        MovingList x = new MovingList();
        for (int n : new int[] {1, 6, 0, -1, LOW, HIGH}) {
            c.due("2 sites " + n, false, x.sites(n));
        }
        x.insert(0, 0, 1);
        c.due("2 refused", false, x.sites(6));
        c.due("2 all stays when refused", 1, x.length(0));
        for (int n = 2; n <= 5; n++) {
            Check.write(x, 0, "ab");
            x.move(0, 0, 1);
            x.change(0, 0, 7);
            x.sync(0, 1);
            x.tell(0, 1);
            x.insert(0, 0, 1);
            x.insert(0, 0, 1);
            x.deliver(1, 5);
            x.lose(1, 0);
            x.image(0);
            x.image(1);
            Check.feed(x, "x");
            int taped = x.all(5);
            c.due("2 sites " + n, true, x.sites(n));
            c.due("2 how many", n, x.all(0));
            c.due("2 last site", 0, x.length(n - 1));
            c.due("2 beyond", -1, x.length(n));
            c.due("2 no ops", 0, x.all(1));
            c.due("2 none waits", 0, x.all(2));
            c.due("2 none held", 0, x.all(3));
            c.due("2 none lost", 0, x.all(4));
            c.due("2 no image 0", false, x.back(0));
            c.due("2 no image 1", false, x.back(1));
            c.due("2 tape stays", taped, x.all(5));
            c.due("2 clock", 0, x.count(0, 4));
            c.due("2 vector", 0, x.vector(1, 0));
            c.due("2 nothing known", 0, x.knows(1, 0, 0));
            c.dueText("2 places", "0", Check.places(x, 1));
            x.insert(0, 0, 3);
            c.due("2 not moved", 0, x.at(0, 0, 3));
            c.dueText("2 its own letter", "d", Check.letters(x, 0));
            c.due("2 not at site 1", -1, x.index(1, 1));
            c.due("2 no element at site 1", 0, x.count(1, 1));
            x.sites(n);
        }
    }

    private void insert3() {
        MovingList x = new MovingList();
        c.due("3 first", 1, x.insert(0, 0, 0));
        c.due("3 end", 2, x.insert(0, 1, 25));
        c.due("3 middle", 3, x.insert(0, 1, 12));
        c.dueText("3 letters", "amz", Check.letters(x, 0));
        c.due("3 front", 4, x.insert(0, 0, 5));
        c.dueText("3 letters", "famz", Check.letters(x, 0));
        c.due("3 another site", 201, x.insert(2, 0, 3));
        for (int s : NO_SITES) {
            c.due("3 site", -1, x.insert(s, 0, 0));
        }
        c.due("3 beyond", -1, x.insert(0, 5, 0));
        c.due("3 below", -1, x.insert(0, -1, 0));
        c.due("3 far", -1, x.insert(0, HIGH, 0));
        c.due("3 far below", -1, x.insert(0, LOW, 0));
        c.due("3 letter", -1, x.insert(0, 0, 26));
        c.due("3 letter below", -1, x.insert(0, 0, -1));
        c.due("3 nothing came of these", 4, x.count(0, 5));
        c.due("3 behind a place, not an element", 0, x.op(4, 3));
        x.move(0, 3, 0);
        c.due("3 behind a moved one", 6, x.insert(0, 1, 1));
        c.due("3 its place is that of the move", 5, x.op(6, 3));
        c.dueText("3 letters", "zbfam", Check.letters(x, 0));
    }

    private void insertOrder3() {
        MovingList x = new MovingList();
        Check.write(x, 0, "ab");
        Check.syncAll(x);
        x.insert(0, 1, 2);
        x.insert(1, 1, 3);
        x.insert(1, 2, 4);
        x.insert(2, 1, 5);
        Check.syncAll(x);
        // Of like times (3) the greater site comes first; 102 is behind 101.
        c.dueText("3 concurrent", "1 201 101 102 3 2", Check.names(x, 0));
        c.dueText("3 like everywhere", "1 201 101 102 3 2", Check.names(x, 1));
        c.dueText("3 like everywhere", "1 201 101 102 3 2", Check.names(x, 2));
        MovingList y = new MovingList();
        y.insert(2, 0, 0);
        y.insert(0, 0, 1);
        y.insert(0, 0, 2);
        Check.syncAll(y);
        c.dueText("3 the greater time goes above the greater site", "2 201 1", Check.names(y, 1));
    }

    private void move4() {
        MovingList x = new MovingList();
        Check.write(x, 0, "abcd");
        c.due("4 forward", 5, x.move(0, 0, 2));
        c.dueText("4 letters", "bcad", Check.letters(x, 0));
        c.due("4 behind", 3, x.op(5, 3));
        c.due("4 backward", 6, x.move(0, 3, 1));
        c.dueText("4 letters", "bdca", Check.letters(x, 0));
        c.due("4 behind", 2, x.op(6, 3));
        c.due("4 to the end", 7, x.move(0, 0, 3));
        c.dueText("4 letters", "dcab", Check.letters(x, 0));
        c.due("4 to the front", 8, x.move(0, 2, 0));
        c.dueText("4 letters", "adcb", Check.letters(x, 0));
        c.due("4 to where it is", 9, x.move(0, 1, 1));
        c.dueText("4 letters", "adcb", Check.letters(x, 0));
        c.due("4 behind", 8, x.op(9, 3));
        for (int s : NO_SITES) {
            c.due("4 site", -1, x.move(s, 0, 0));
        }
        c.due("4 from beyond", -1, x.move(0, 4, 0));
        c.due("4 from below", -1, x.move(0, -1, 0));
        c.due("4 to beyond", -1, x.move(0, 0, 4));
        c.due("4 to below", -1, x.move(0, 0, -1));
        c.due("4 far", -1, x.move(0, HIGH, LOW));
        c.due("4 far", -1, x.move(0, 0, HIGH));
        c.due("4 empty", -1, x.move(1, 0, 0));
    }

    private void latestMoveWins4() {
        MovingList x = new MovingList();
        Check.write(x, 0, "abc");
        Check.syncAll(x);
        x.move(0, 2, 0);
        x.move(1, 2, 1);
        x.move(2, 0, 2);
        Check.syncAll(x);
        for (int s = 0; s < 3; s++) {
            c.dueText("4 places", "0 4 1 101 2 3 201", Check.places(x, s));
            c.dueText("4 one list", "3 2 1", Check.names(x, s));
        }
        c.due("4 the greater site of like times", 101, x.at(0, x.index(0, 3), 2));
        MovingList y = new MovingList();
        Check.write(y, 0, "abc");
        Check.syncAll(y);
        y.move(2, 0, 2);
        y.insert(0, 3, 3);
        y.move(0, 0, 1);
        Check.syncAll(y);
        c.due("4 the greater time", 5, y.at(1, y.index(1, 1), 2));
        c.due("4 moved twice", 2, y.at(1, y.index(1, 1), 3));
        c.dueText("4 letters", "bacd", Check.letters(y, 1));
    }

    private void drop5() {
        MovingList x = new MovingList();
        Check.write(x, 0, "abc");
        c.due("5 drop", 4, x.drop(0, 1));
        c.dueText("5 letters", "ac", Check.letters(x, 0));
        c.due("5 which", 2, x.op(4, 0));
        c.due("5 element", 2, x.op(4, 2));
        c.due("5 place stays", 4, x.count(0, 0));
        for (int s : NO_SITES) {
            c.due("5 site", -1, x.drop(s, 0));
        }
        c.due("5 beyond", -1, x.drop(0, 2));
        c.due("5 below", -1, x.drop(0, -1));
        c.due("5 far", -1, x.drop(0, HIGH));
        c.due("5 empty", -1, x.drop(1, 0));
        // A drop wins over moves and changes, also over later ones.
        Check.syncAll(x);
        x.drop(0, 0);
        x.move(1, 0, 1);
        x.change(2, 0, 7);
        Check.syncAll(x);
        c.dueText("5 gone everywhere", "c c c", Check.letters(x, 0) + " " + Check.letters(x, 1)
                + " " + Check.letters(x, 2));
        // Two drops of one element.
        x.drop(0, 0);
        x.drop(1, 0);
        Check.syncAll(x);
        c.due("5 dropped twice", 0, x.length(2));
    }

    private void change6() {
        MovingList x = new MovingList();
        Check.write(x, 0, "abc");
        c.due("6 change", 4, x.change(0, 1, 25));
        c.dueText("6 letters", "azc", Check.letters(x, 0));
        c.due("6 the same letter", 5, x.change(0, 1, 25));
        c.dueText("6 names stay", "1 2 3", Check.names(x, 0));
        for (int s : NO_SITES) {
            c.due("6 site", -1, x.change(s, 0, 0));
        }
        c.due("6 beyond", -1, x.change(0, 3, 0));
        c.due("6 below", -1, x.change(0, -1, 0));
        c.due("6 letter", -1, x.change(0, 0, 26));
        c.due("6 letter below", -1, x.change(0, 0, -1));
        Check.syncAll(x);
        x.change(0, 0, 1);
        x.change(1, 0, 2);
        x.change(2, 0, 3);
        Check.syncAll(x);
        c.dueText("6 the greater site of like times", "dzc", Check.letters(x, 0));
        x.change(2, 0, 4);
        x.insert(0, 0, 9);
        x.change(0, 1, 5);
        Check.syncAll(x);
        c.dueText("6 the greater time", "jfzc", Check.letters(x, 1));
    }

    private void revertInsertChange7() {
        MovingList x = new MovingList();
        c.due("7 made none", -1, x.revert(0));
        for (int s : NO_SITES) {
            c.due("7 site", -1, x.revert(s));
        }
        x.insert(1, 0, 0);
        c.due("7 the only one", 102, x.revert(1));
        x.sites(3);
        Check.write(x, 0, "ab");
        c.due("7 insert", 3, x.revert(0));
        c.due("7 by a drop", 2, x.op(3, 0));
        c.due("7 of its element", 2, x.op(3, 2));
        c.dueText("7 letters", "a", Check.letters(x, 0));
        c.due("7 drop", 4, x.revert(0));
        c.due("7 by an insert", 0, x.op(4, 0));
        c.due("7 a new element", 4, x.op(4, 2));
        c.dueText("7 letters", "ab", Check.letters(x, 0));
        Check.syncAll(x);
        x.change(0, 0, 5);
        x.change(0, 0, 6);
        c.due("7 change", 7, x.revert(0));
        c.due("7 by a change", 3, x.op(7, 0));
        c.due("7 to the letter found", 5, x.op(7, 4));
        c.due("7 again", 8, x.revert(0));
        c.due("7 to the letter found by that", 6, x.op(8, 4));
        // The letter found is that by its needs alone, not what came since.
        MovingList y = new MovingList();
        Check.write(y, 0, "a");
        Check.syncAll(y);
        y.change(2, 0, 9);
        y.change(0, 0, 3);
        Check.syncAll(y);
        c.dueText("7 that of site 2 is later", "j", Check.letters(y, 0));
        c.due("7 change", 3, y.revert(0));
        c.dueText("7 letters", "a", Check.letters(y, 0));
        c.due("7 it made none, though it has done some", -1, y.revert(1));
    }

    private void revertMove7() {
        MovingList x = new MovingList();
        Check.write(x, 0, "abcd");
        x.move(0, 2, 0);
        c.dueText("7 letters", "cabd", Check.letters(x, 0));
        c.due("7 move", 6, x.revert(0));
        c.due("7 by a move", 1, x.op(6, 0));
        c.due("7 behind what was ahead", 2, x.op(6, 3));
        c.dueText("7 letters", "abcd", Check.letters(x, 0));
        x.move(0, 0, 3);
        c.due("7 of the first one", 8, x.revert(0));
        c.due("7 behind the head", 0, x.op(8, 3));
        c.dueText("7 letters", "abcd", Check.letters(x, 0));
        // What was ahead has moved since: its place of now counts.
        Check.syncAll(x);
        x.move(0, 3, 0);
        x.move(1, 2, 0);
        x.sync(1, 0);
        c.due("7 move", 10, x.revert(0));
        c.due("7 behind the place of now", 101, x.op(10, 3));
        c.dueText("7 letters", "cdab", Check.letters(x, 0));
        // What was ahead is gone: behind the head.
        Check.syncAll(x);
        x.move(0, 3, 1);
        x.drop(1, 2);
        x.sync(1, 0);
        c.dueText("7 letters", "cbd", Check.letters(x, 0));
        c.due("7 move", 12, x.revert(0));
        c.due("7 behind the head", 0, x.op(12, 3));
        c.dueText("7 letters", "bcd", Check.letters(x, 0));
    }

    private void revertDrop7() {
        MovingList x = new MovingList();
        Check.write(x, 0, "abc");
        x.change(0, 1, 20);
        x.drop(0, 1);
        c.due("7 drop", 6, x.revert(0));
        c.due("7 the letter found", 20, x.op(6, 4));
        c.due("7 behind what was ahead", 1, x.op(6, 3));
        c.dueText("7 names", "1 6 3", Check.names(x, 0));
        x.drop(0, 0);
        c.due("7 the first one", 8, x.revert(0));
        c.due("7 behind the head", 0, x.op(8, 3));
        // What was ahead was dropped elsewhere since.
        Check.syncAll(x);
        x.drop(0, 2);
        x.drop(1, 1);
        x.sync(1, 0);
        c.due("7 drop", 10, x.revert(0));
        c.due("7 behind the head", 0, x.op(10, 3));
        c.dueText("7 names", "10 8", Check.names(x, 0));
    }

    private void revertRefused7() {
        MovingList x = new MovingList();
        Check.write(x, 0, "a");
        Check.syncAll(x);
        x.change(1, 0, 3);
        x.move(2, 0, 0);
        x.drop(0, 0);
        Check.syncAll(x);
        c.due("7 change of one that is gone", -1, x.revert(1));
        c.due("7 move of one that is gone", -1, x.revert(2));
        c.due("7 drop of one that is gone", 3, x.revert(0));
        Check.syncAll(x);
        x.sync(0, 1);
        x.drop(1, 0);
        x.sync(1, 0);
        c.due("7 insert of one that is gone", -1, x.revert(0));
        c.due("7 nothing made", 3, x.count(0, 5));
    }

    /** The draws of the document, once more. */
    private static int[] draws(int seed, int... of) {
        int[] answers = new int[of.length];
        int x = seed;
        for (int k = 0; k < of.length; k++) {
            x = x * 1103515245 + 12345;
            answers[k] = (x >>> 8) % of[k];
        }
        return answers;
    }

    private void chance8() {
        MovingList x = new MovingList();
        for (int n : new int[] {0, 61, -1, LOW, HIGH}) {
            c.due("8 times " + n, -1, x.chance(n, 7));
        }
        c.due("8 nothing made", 0, x.all(1));
        int[] d = draws(5, 3, 8, 1, 26);
        int acts = x.chance(1, 5);
        c.due("8 seed 5 inserts", true, d[1] <= 2);
        c.due("8 one act", 1, acts);
        c.due("8 at that site", 1, x.length(d[0]));
        c.due("8 that letter", d[3], x.at(d[0], 0, 1));
        MovingList y = new MovingList();
        MovingList z = new MovingList();
        c.due("8 one seed, one answer", y.chance(60, -77), z.chance(60, -77));
        c.dueText("8 one list", Check.names(y, 0), Check.names(z, 0));
    }

    private int drawn;

    private int draw(int m) {
        drawn = drawn * 1103515245 + 12345;
        return (drawn >>> 8) % m;
    }

    /** One chance by the words of the document, done by other calls: its answer. */
    private int replay(MovingList y) {
        int s = draw(y.all(0));
        int kind = draw(8);
        int n = y.length(s);
        int waits = y.post(s, 0, -1);
        kinds[kind]++;
        if (kind <= 2) {
            int i = draw(n + 1);
            return y.insert(s, i, draw(26));
        }
        if (kind == 7) {
            return y.sync(draw(y.all(0)), s);
        }
        if (kind == 6) {
            return waits == 0 ? -1 : y.deliver(s, draw(waits));
        }
        if (n == 0) {
            return -1;
        }
        int i = draw(n);
        return kind == 3 ? y.move(s, i, draw(n)) : kind == 4 ? y.drop(s, i)
                : y.change(s, i, draw(26));
    }

    private final int[] kinds = new int[8];

    /** Chances for many seeds, against the acts that their draws tell. */
    private void chanceKinds8() {
        for (int seed = -100; seed < 100; seed++) {
            int times = seed < 0 ? 1 : 5;
            MovingList x = ready();
            MovingList y = ready();
            int want = 0;
            drawn = seed;
            for (int k = 0; k < times; k++) {
                want += replay(y) == -1 ? 0 : 1;
            }
            c.due("8 chance by seed " + seed, want, x.chance(times, seed));
            c.dueText("8 all of it by seed " + seed, Check.group(y), Check.group(x));
        }
        for (int kind = 0; kind < 8; kind++) {
            c.due("8 kind " + kind + " came", true, kinds[kind] > 5);
        }
    }

    /** One site wrote, one has a part, one has nothing, the last one made an op, has no post. */
    private static MovingList ready() {
        MovingList x = new MovingList();
        x.sites(4);
        x.insert(3, 0, 5);
        Check.write(x, 0, "abcde");
        x.deliver(1, 0);
        x.deliver(1, 0);
        x.deliver(1, 1);
        for (int k = 0; k < 6; k++) {
            x.lose(3, 0);
            x.lose(2, 1);
        }
        return x;
    }

    private void deliver9() {
        MovingList x = new MovingList();
        Check.write(x, 0, "abcd");
        for (int s : NO_SITES) {
            c.due("9 site", -1, x.deliver(s, 0));
        }
        c.due("9 none such", -1, x.deliver(1, 4));
        c.due("9 below", -1, x.deliver(1, -1));
        c.due("9 far", -1, x.deliver(1, HIGH));
        c.due("9 none waits", -1, x.deliver(0, 0));
        c.due("9 held", 0, x.deliver(1, 3));
        c.due("9 it waits no more", 3, x.post(1, 0, -1));
        c.due("9 held", 0, x.deliver(1, 1));
        c.due("9 held in turn", 4, x.post(1, 1, 0));
        c.due("9 held in turn", 2, x.post(1, 1, 1));
        c.due("9 the first and the held one that follows", 2, x.deliver(1, 0));
        c.due("9 one stays held", 1, x.post(1, 1, -1));
        c.due("9 the third and the fourth", 2, x.deliver(1, 0));
        c.due("9 none held", 0, x.post(1, 1, -1));
        c.dueText("9 letters", "abcd", Check.letters(x, 1));
        c.due("9 clock", 4, x.count(1, 4));
        // Old ones: done, or held already.
        x.twice(2, 1);
        c.due("9 held", 0, x.deliver(2, 1));
        c.due("9 old, as it is held", 0, x.deliver(2, 3));
        c.due("9 held once", 1, x.post(2, 1, -1));
        x.twice(2, 0);
        c.due("9 done", 2, x.deliver(2, 0));
        c.due("9 old, as it is done", 0, x.deliver(2, 2));
        c.due("9 not held", 0, x.post(2, 1, -1));
        // Needs of another site than the maker.
        MovingList y = new MovingList();
        y.insert(0, 0, 1);
        y.deliver(1, 0);
        y.insert(1, 1, 2);
        c.due("9 held for an op of another site", 0, y.deliver(2, 1));
        c.due("9 both", 2, y.deliver(2, 0));
        c.dueText("9 names", "1 101", Check.names(y, 2));
        // The clock stays, where it is greater than the time.
        Check.write(y, 0, "xyz");
        y.insert(1, 0, 0);
        y.deliver(0, 1);
        c.due("9 clock", 4, y.count(0, 4));
    }

    private void lose10() {
        MovingList x = new MovingList();
        Check.write(x, 0, "abc");
        for (int s : NO_SITES) {
            c.due("10 site", -1, x.lose(s, 0));
        }
        c.due("10 none such", -1, x.lose(1, 3));
        c.due("10 below", -1, x.lose(1, -1));
        c.due("10 none waits", -1, x.lose(0, 0));
        c.due("10 none lost", 0, x.all(4));
        c.due("10 lost", 2, x.lose(1, 1));
        c.due("10 how many", 1, x.all(4));
        c.due("10 waiting", 2, x.post(1, 0, -1));
        c.due("10 the next one", 3, x.post(1, 0, 1));
        c.due("10 at that site alone", 3, x.post(2, 0, -1));
        c.due("10 not done", false, x.has(1, 2));
        c.due("10 the maker has it", true, x.has(0, 2));
        c.due("10 none such any more", -1, x.lose(1, 2));
        c.due("10 nor to be delivered", -1, x.deliver(1, 2));
        c.due("10 nor to come twice", -1, x.twice(1, 2));
    }

    private void twice11() {
        MovingList x = new MovingList();
        Check.write(x, 0, "abc");
        for (int s : NO_SITES) {
            c.due("11 site", -1, x.twice(s, 0));
        }
        c.due("11 none such", -1, x.twice(1, 3));
        c.due("11 below", -1, x.twice(1, -1));
        c.due("11 none waits", -1, x.twice(0, 0));
        c.due("11 twice", 2, x.twice(1, 1));
        c.due("11 waiting", 4, x.post(1, 0, -1));
        c.due("11 it stays", 2, x.post(1, 0, 1));
        c.due("11 at the end", 2, x.post(1, 0, 3));
        c.due("11 at that site alone", 3, x.post(2, 0, -1));
    }

    private void fullRow11() {
        MovingList x = new MovingList();
        x.insert(0, 0, 1);
        for (int k = 1; k < 60; k++) {
            c.due("11 twice", 1, x.twice(1, 0));
        }
        c.due("11 sixty wait", 60, x.post(1, 0, -1));
        c.due("11 no more", -1, x.twice(1, 0));
        c.due("11 sixty wait", 60, x.post(1, 0, -1));
        c.due("11 none lost", 0, x.all(4));
        c.due("3 made all the same", 2, x.insert(0, 1, 2));
        c.due("37 lost of a full row", 1, x.all(4));
        c.due("3 still sixty", 60, x.post(1, 0, -1));
        c.due("3 the other row has it", 2, x.post(2, 0, -1));
        c.due("21 the last one", 1, x.post(1, 0, 59));
        c.due("21 beyond", -1, x.post(1, 0, 60));
        x.lose(1, 0);
        c.due("11 room again", 1, x.twice(1, 0));
    }

    private void sync12() {
        MovingList x = new MovingList();
        for (int s : NO_SITES) {
            c.due("12 from", -1, x.sync(s, 0));
            c.due("12 to", -1, x.sync(0, s));
        }
        for (int s = 0; s < 3; s++) {
            c.due("12 one and itself", -1, x.sync(s, s));
        }
        c.due("12 nothing there", 0, x.sync(0, 1));
        Check.write(x, 0, "abc");
        x.insert(1, 0, 3);
        c.due("12 three", 3, x.sync(0, 1));
        c.due("12 nothing new", 0, x.sync(0, 1));
        c.due("12 one way", 0, x.vector(0, 1));
        c.due("12 clock", 3, x.count(1, 4));
        c.due("12 also what is not its own", 4, x.sync(1, 2));
        c.due("12 vector", 3, x.vector(2, 0));
        c.due("12 vector", 1, x.vector(2, 1));
        c.due("12 they wait still", 4, x.post(2, 0, -1));
        c.due("12 as old ones", 0, x.deliver(2, 0));
        c.due("12 none lost", 0, x.all(4));
    }

    private void syncHeld12() {
        MovingList x = new MovingList();
        Check.write(x, 0, "ab");
        x.sync(0, 1);
        Check.write(x, 0, "c");
        x.insert(0, 3, 3);
        // At site 2 the second and the fourth are held; site 1 has the first two.
        x.deliver(2, 1);
        x.deliver(2, 2);
        x.deliver(2, 1);
        c.due("12 held", 3, x.post(2, 1, -1));
        c.due("12 two by it, then two held ones", 4, x.sync(1, 2));
        c.due("12 none held", 0, x.post(2, 1, -1));
        c.due("12 all done", 4, x.vector(2, 0));
        MovingList y = new MovingList();
        Check.write(y, 0, "abc");
        y.deliver(1, 2);
        y.deliver(1, 1);
        c.due("12 done by it", 3, y.sync(0, 1));
        c.due("12 held no more", 0, y.post(1, 1, -1));
        c.due("12 done once", 3, y.length(1));
    }

    private void tell13() {
        MovingList x = new MovingList();
        for (int s : NO_SITES) {
            c.due("13 from", false, x.tell(s, 0));
            c.due("13 to", false, x.tell(0, s));
        }
        c.due("13 nothing made", true, x.tell(0, 1));
        x.insert(0, 0, 0);
        x.insert(2, 0, 1);
        c.due("13 refused", false, x.tell(0, 1));
        c.due("13 nothing known", 0, x.knows(1, 0, 0));
        x.deliver(1, 0);
        c.due("13 told", true, x.tell(0, 1));
        c.due("13 known", 1, x.knows(1, 0, 0));
        c.due("13 known", 0, x.knows(1, 0, 2));
        x.sync(2, 0);
        c.due("13 as it was then", 0, x.knows(1, 0, 2));
        c.due("13 told, though it lacks ops of a third", true, x.tell(0, 1));
        c.due("13 known", 1, x.knows(1, 0, 2));
        c.due("13 to that one alone", 0, x.knows(2, 0, 0));
        x.insert(0, 0, 2);
        c.due("13 refused", false, x.tell(0, 1));
        c.due("13 what it knew stays", 1, x.knows(1, 0, 0));
    }

    private void sweep14() {
        MovingList x = new MovingList();
        for (int s : NO_SITES) {
            c.due("14 site", -1, x.sweep(s));
        }
        c.due("14 the head stays", 0, x.sweep(0));
        // a, b behind a, c behind b; b and c are dropped: both go, on and on.
        Check.write(x, 0, "abc");
        x.drop(0, 1);
        x.drop(0, 1);
        Check.syncAll(x);
        c.due("14 nothing is seen yet", 0, x.sweep(0));
        Check.tellAll(x, 0);
        c.due("14 both", 2, x.sweep(0));
        c.dueText("14 places", "0 1", Check.places(x, 0));
        c.due("14 no more", 0, x.sweep(0));
        c.due("14 at that site alone", 4, x.count(1, 0));
        c.due("14 site 1 knows nothing", 0, x.sweep(1));
        c.due("14 and keeps all", 4, x.count(1, 0));
        c.due("14 forgotten", 1, x.count(0, 1));
        // A place behind which another one was told stays.
        MovingList y = new MovingList();
        Check.write(y, 0, "abc");
        y.drop(0, 0);
        y.move(0, 1, 0);
        Check.syncAll(y);
        Check.tellAll(y, 0);
        c.dueText("14 places", "0 5 1 2 3", Check.places(y, 0));
        c.due("14 only the one c was moved from", 1, y.sweep(0));
        c.dueText("14 places", "0 5 1 2", Check.places(y, 0));
        // New ones can come as before.
        y.insert(0, 2, 7);
        Check.syncAll(y);
        c.dueText("14 one list", Check.letters(y, 1), Check.letters(y, 0));
        c.dueText("14 letters", "cbh", Check.letters(y, 0));
    }

    private void sweepUnseen14() {
        MovingList x = new MovingList();
        Check.write(x, 0, "ab");
        Check.syncAll(x);
        Check.tellAll(x, 0);
        x.drop(0, 1);
        c.due("14 its drop is not seen", 0, x.sweep(0));
        x.sync(0, 1);
        x.tell(1, 0);
        c.due("14 not seen by all", 0, x.sweep(0));
        x.sync(0, 2);
        c.due("14 not told", 0, x.sweep(0));
        x.tell(2, 0);
        c.due("14 seen", 1, x.sweep(0));
        // A move that is not seen does not free the place ahead.
        MovingList y = new MovingList();
        Check.write(y, 0, "ab");
        Check.syncAll(y);
        Check.tellAll(y, 0);
        y.move(0, 1, 0);
        c.due("14 the move is not seen", 0, y.sweep(0));
        Check.syncAll(y);
        Check.tellAll(y, 0);
        c.due("14 seen", 1, y.sweep(0));
        c.dueText("14 places", "0 3 1", Check.places(y, 0));
        y.move(0, 0, 1);
        y.move(0, 1, 0);
        c.due("14 the op it is at by is not seen", 0, y.sweep(0));
        // Gone by two drops, one of which is seen.
        MovingList z = new MovingList();
        z.sites(2);
        Check.write(z, 0, "a");
        z.sync(0, 1);
        z.drop(1, 0);
        z.drop(0, 0);
        z.sync(0, 1);
        z.sync(1, 0);
        z.tell(1, 0);
        c.due("14 seen", 1, z.sweep(0));
        c.due("14 the other site knows nothing", 0, z.sweep(1));
        // The latest op of all is the move of one that was dropped meanwhile.
        MovingList v = new MovingList();
        v.sites(2);
        Check.write(v, 0, "ab");
        v.sync(0, 1);
        v.drop(0, 1);
        v.change(1, 0, 3);
        v.move(1, 1, 0);
        v.sync(0, 1);
        v.sync(1, 0);
        v.tell(1, 0);
        c.dueText("14 places", "0 102 1 2", Check.places(v, 0));
        c.due("14 both of b", 2, v.sweep(0));
        c.dueText("14 places", "0 1", Check.places(v, 0));
    }

    private void length15() {
        MovingList x = new MovingList();
        c.due("15 none", 0, x.length(0));
        Check.write(x, 0, "abcde");
        c.due("15 five", 5, x.length(0));
        x.move(0, 0, 4);
        x.change(0, 0, 9);
        c.due("15 still", 5, x.length(0));
        x.drop(0, 4);
        c.due("15 four", 4, x.length(0));
        c.due("15 of another", 0, x.length(2));
        for (int s : NO_SITES) {
            c.due("15 site", -1, x.length(s));
        }
    }

    private void at16() {
        MovingList x = new MovingList();
        Check.write(x, 0, "ab");
        x.move(0, 0, 1);
        x.move(0, 1, 0);
        x.change(0, 0, 9);
        c.due("16 name", 1, x.at(0, 0, 0));
        c.due("16 letter", 9, x.at(0, 0, 1));
        c.due("16 place", 4, x.at(0, 0, 2));
        c.due("16 moved", 2, x.at(0, 0, 3));
        c.due("16 name", 2, x.at(0, 1, 0));
        c.due("16 place", 2, x.at(0, 1, 2));
        c.due("16 not moved", 0, x.at(0, 1, 3));
        x.deliver(1, 0);
        x.deliver(1, 0);
        x.deliver(1, 0);
        c.due("16 by what is done there", 1, x.at(1, 1, 3));
        c.due("16 letter there", 0, x.at(1, 1, 1));
        for (int s : NO_SITES) {
            c.dueNoElement("16 site", x, s, 0, 0);
        }
        c.dueNoElement("16 beyond", x, 0, 2, 0);
        c.dueNoElement("16 below", x, 0, -1, 0);
        c.dueNoElement("16 far", x, 0, HIGH, 0);
        c.dueNoElement("16 far below", x, 0, LOW, 0);
        c.dueNoElement("16 empty", x, 2, 0, 0);
        c.dueNoElement("16 what", x, 0, 0, 4);
        c.dueNoElement("16 what below", x, 0, 0, -1);
    }

    private void index17() {
        MovingList x = new MovingList();
        Check.write(x, 0, "abc");
        x.insert(1, 0, 3);
        x.sync(1, 0);
        c.dueText("17 names", "101 1 2 3", Check.names(x, 0));
        c.due("17 first", 0, x.index(0, 101));
        c.due("17 last", 3, x.index(0, 3));
        c.due("17 not there", -1, x.index(1, 3));
        x.move(0, 3, 0);
        c.due("17 moved", 0, x.index(0, 3));
        c.due("17 a move is no element", -1, x.index(0, 4));
        x.drop(0, 0);
        c.due("17 gone", -1, x.index(0, 3));
        for (int name : new int[] {0, -1, 99, 41, 100, 200, 300, 500, LOW, HIGH}) {
            c.due("17 name " + name, -1, x.index(0, name));
        }
        for (int s : NO_SITES) {
            c.due("17 site", -1, x.index(s, 1));
        }
    }

    private void vector18() {
        MovingList x = new MovingList();
        Check.write(x, 0, "ab");
        x.insert(1, 0, 0);
        c.due("18 itself", 2, x.vector(0, 0));
        c.due("18 another", 0, x.vector(0, 1));
        x.deliver(0, 0);
        c.due("18 delivered", 1, x.vector(0, 1));
        x.deliver(1, 1);
        c.due("18 held ones do not count", 0, x.vector(1, 0));
        for (int s : NO_SITES) {
            c.due("18 site", -1, x.vector(s, 0));
            c.due("18 of", -1, x.vector(0, s));
        }
    }

    private void knows19() {
        MovingList x = new MovingList();
        Check.write(x, 0, "ab");
        x.insert(1, 0, 0);
        x.sync(0, 1);
        c.due("19 of itself", 2, x.knows(1, 1, 0));
        c.due("19 of itself", 1, x.knows(1, 1, 1));
        c.due("19 nothing at first", 0, x.knows(1, 0, 0));
        x.tell(0, 1);
        c.due("19 told", 2, x.knows(1, 0, 0));
        c.due("19 told", 0, x.knows(1, 0, 1));
        x.sync(1, 2);
        x.tell(1, 2);
        c.due("19 what was told, not what that one knows", 0, x.knows(2, 0, 0));
        c.due("19 told", 1, x.knows(2, 1, 1));
        for (int s : NO_SITES) {
            c.due("19 site", -1, x.knows(s, 0, 0));
            c.due("19 of", -1, x.knows(0, s, 0));
            c.due("19 about", -1, x.knows(0, 0, s));
        }
    }

    private void floor20() {
        MovingList x = new MovingList();
        Check.write(x, 0, "ab");
        x.sync(0, 1);
        x.deliver(2, 0);
        x.tell(1, 0);
        c.due("20 of one it knows nothing", 0, x.floor(0, 0));
        x.tell(2, 0);
        c.due("20 the least of all", 1, x.floor(0, 0));
        x.sync(0, 2);
        x.tell(2, 0);
        c.due("20 all", 2, x.floor(0, 0));
        // Its own vector counts too: site 1 has done what site 0 has not.
        x.insert(2, 0, 5);
        x.sync(2, 1);
        x.tell(1, 0);
        c.due("20 known of site 1", 1, x.knows(0, 1, 2));
        c.due("20 not done here", 0, x.floor(0, 2));
        for (int s : NO_SITES) {
            c.due("20 site", -1, x.floor(s, 0));
            c.due("20 of", -1, x.floor(0, s));
        }
        MovingList y = new MovingList();
        y.sites(2);
        y.insert(0, 0, 0);
        y.insert(1, 0, 0);
        y.sync(0, 1);
        y.sync(1, 0);
        y.tell(1, 0);
        y.insert(0, 0, 0);
        c.due("20 two sites", 1, y.floor(0, 0));
        c.due("20 two sites", 1, y.floor(0, 1));
        c.due("20 untold", 0, y.floor(1, 0));
    }

    private void post21() {
        MovingList x = new MovingList();
        Check.write(x, 0, "abc");
        x.insert(2, 0, 0);
        c.due("21 waiting", 4, x.post(1, 0, -1));
        c.due("21 in turn", 1, x.post(1, 0, 0));
        c.due("21 in turn", 201, x.post(1, 0, 3));
        c.due("21 none of its own", 1, x.post(0, 0, -1));
        c.due("21 none held", 0, x.post(1, 1, -1));
        x.deliver(1, 2);
        c.due("21 held", 1, x.post(1, 1, -1));
        c.due("21 held", 3, x.post(1, 1, 0));
        c.due("21 no second", -1, x.post(1, 1, 1));
        c.due("21 the rest moves up", 201, x.post(1, 0, 2));
        c.due("21 beyond", -1, x.post(1, 0, 3));
        c.due("21 below", -1, x.post(1, 0, -2));
        c.due("21 far", -1, x.post(1, 0, HIGH));
        c.due("21 row", -1, x.post(1, 2, 0));
        c.due("21 row", -1, x.post(1, -1, -1));
        for (int s : NO_SITES) {
            c.due("21 site", -1, x.post(s, 0, -1));
        }
    }

    private void op22() {
        MovingList x = new MovingList();
        x.insert(1, 0, 7);
        x.insert(1, 1, 8);
        x.move(1, 1, 0);
        x.change(1, 1, 20);
        x.drop(1, 0);
        int[][] want = {
            {0, 1, 101, 0, 7}, {0, 2, 102, 101, 8}, {1, 3, 102, 0, -1}, {3, 4, 101, -1, 20},
            {2, 5, 102, -1, -1},
        };
        for (int k = 0; k < want.length; k++) {
            for (int what = 0; what < 5; what++) {
                c.due("22 op " + (101 + k) + " " + what, want[k][what], x.op(101 + k, what));
            }
            c.due("22 what", -2, x.op(101 + k, 5));
            c.due("22 what", -2, x.op(101 + k, -1));
        }
        for (int name : new int[] {0, 1, 100, 106, 141, 199, 201, 300, 301, -1, -101, LOW, HIGH}) {
            c.due("22 name " + name, -2, x.op(name, 0));
        }
        x.sync(1, 0);
        x.insert(0, 0, 1);
        c.due("22 time behind what it has seen", 6, x.op(1, 1));
        x.insert(2, 0, 1);
        c.due("22 time of one that has seen nothing", 1, x.op(201, 1));
        x.sites(2);
        c.due("22 all is as at first", -2, x.op(101, 0));
        x.sites(5);
        c.due("22 beyond the last site", -2, x.op(501, 0));
        c.due("22 beyond the last op", -2, x.op(440, 0));
    }

    private void needs23() {
        MovingList x = new MovingList();
        Check.write(x, 0, "ab");
        x.sync(0, 1);
        x.insert(1, 0, 3);
        x.insert(1, 0, 3);
        c.due("23 first", 0, x.needs(1, 0));
        c.due("23 second", 1, x.needs(2, 0));
        c.due("23 of another", 2, x.needs(101, 0));
        c.due("23 without itself", 0, x.needs(101, 1));
        c.due("23 its own", 1, x.needs(102, 1));
        c.due("23 a third", 0, x.needs(102, 2));
        x.sync(1, 0);
        c.due("23 as it was made", 0, x.needs(2, 1));
        for (int s : NO_SITES) {
            c.due("23 site", -1, x.needs(1, s));
        }
        for (int name : new int[] {0, 3, 103, 201, 301, -1, LOW, HIGH}) {
            c.due("23 name", -1, x.needs(name, 0));
        }
    }

    private void ahead24() {
        MovingList x = new MovingList();
        Check.write(x, 0, "ab");
        x.deliver(1, 0);
        x.insert(1, 0, 3);
        c.due("24 ahead", 0, x.ahead(1, 2));
        c.due("24 behind", 1, x.ahead(2, 1));
        c.due("24 of another site", 0, x.ahead(1, 101));
        c.due("24 of another site", 1, x.ahead(101, 1));
        c.due("24 concurrent", 2, x.ahead(2, 101));
        c.due("24 concurrent", 2, x.ahead(101, 2));
        c.due("24 one", 3, x.ahead(101, 101));
        for (int name : new int[] {0, 3, 102, 201, 301, -1, LOW, HIGH}) {
            c.due("24 first", -1, x.ahead(name, 1));
            c.due("24 second", -1, x.ahead(1, name));
            c.due("24 both", -1, x.ahead(name, name));
        }
    }

    private void found25() {
        MovingList x = new MovingList();
        Check.write(x, 0, "abc");
        x.deliver(1, 0);
        x.deliver(1, 0);
        x.move(1, 0, 1);
        x.drop(1, 0);
        Check.syncAll(x);
        c.due("25 by the first one", 0, x.found(1, -1));
        c.due("25 none there", -1, x.found(1, 0));
        c.due("25 by the third one", 2, x.found(3, -1));
        c.due("25 by the move", 2, x.found(101, -1));
        c.due("25 by the move", 1, x.found(101, 0));
        c.due("25 by the move", 2, x.found(101, 1));
        c.due("25 by the drop, behind the move", 2, x.found(102, 0));
        c.due("25 by the drop, behind the move", 1, x.found(102, 1));
        c.due("25 beyond", -1, x.found(102, 2));
        c.due("25 below", -1, x.found(102, -2));
        c.due("25 far", -1, x.found(102, HIGH));
        for (int name : new int[] {0, 4, 103, 201, 301, -1, LOW, HIGH}) {
            c.due("25 name", -1, x.found(name, -1));
        }
        Check.tellAll(x, 0);
        x.sweep(0);
        c.due("25 as it was made, whatever was swept", 2, x.found(102, 0));
    }

    private void rivals26() {
        MovingList x = new MovingList();
        Check.write(x, 0, "ab");
        Check.syncAll(x);
        x.move(2, 0, 1);
        x.change(2, 1, 5);
        x.drop(1, 0);
        x.change(0, 0, 9);
        x.change(0, 1, 9);
        c.due("26 of the change at 0", 3, x.rivals(3, -1));
        c.due("26 by names", 101, x.rivals(3, 0));
        c.due("26 by names", 201, x.rivals(3, 1));
        c.due("26 by names", 202, x.rivals(3, 2));
        c.due("26 beyond", -1, x.rivals(3, 3));
        c.due("26 below", -1, x.rivals(3, -2));
        c.due("26 not of its own site", 2, x.rivals(201, -1));
        c.due("26 upwards", 3, x.rivals(201, 0));
        c.due("26 upwards", 101, x.rivals(201, 1));
        c.due("26 of another element", 0, x.rivals(4, -1));
        c.due("26 an insert has none", 0, x.rivals(1, -1));
        MovingList y = new MovingList();
        c.due("26 no ops", -1, y.rivals(1, -1));
        y.insert(1, 0, 0);
        Check.syncAll(y);
        y.move(0, 0, 0);
        y.drop(2, 0);
        c.due("26 the first op of site 0", 1, y.rivals(201, 0));
        c.due("26 the other way round", 201, y.rivals(1, 0));
        for (int name : new int[] {0, 5, 102, 203, 301, -1, LOW, HIGH}) {
            c.due("26 name", -1, x.rivals(name, -1));
        }
    }

    private void has27() {
        MovingList x = new MovingList();
        Check.write(x, 0, "ab");
        c.due("27 its own", true, x.has(0, 2));
        c.due("27 not made", false, x.has(0, 3));
        c.due("27 not delivered", false, x.has(1, 1));
        x.deliver(1, 1);
        c.due("27 held", false, x.has(1, 2));
        x.deliver(1, 0);
        c.due("27 done", true, x.has(1, 1));
        c.due("27 done", true, x.has(1, 2));
        for (int name : new int[] {0, -1, 100, 300, 301, LOW, HIGH, -99}) {
            c.due("27 name", false, x.has(0, name));
        }
        for (int s : NO_SITES) {
            c.due("27 site", false, x.has(s, 1));
        }
    }

    private void counts(String what, MovingList x, int site, int... want) {
        for (int k = 0; k < want.length; k++) {
            c.due(what + " " + k, want[k], x.count(site, k));
        }
    }

    private void count28() {
        MovingList x = new MovingList();
        counts("28 at first", x, 0, 1, 0, 0, 0, 0, 0, 0, 0);
        Check.write(x, 0, "abc");
        counts("28 a row", x, 0, 4, 3, 0, 0, 3, 3, 0, 3);
        x.move(0, 2, 0);
        counts("28 moved", x, 0, 5, 3, 0, 0, 4, 4, 0, 3);
        x.move(0, 0, 1);
        counts("28 moved again", x, 0, 6, 3, 0, 0, 5, 5, 1, 3);
        x.drop(0, 1);
        counts("28 dropped", x, 0, 6, 3, 1, 0, 6, 6, 1, 3);
        x.insert(1, 0, 0);
        x.sync(1, 0);
        counts("28 an older one comes", x, 0, 7, 4, 1, 0, 6, 6, 1, 3);
        counts("28 another site", x, 1, 2, 1, 0, 0, 1, 1, 0, 1);
        MovingList y = new MovingList();
        y.insert(0, 0, 0);
        y.sync(0, 1);
        y.move(1, 0, 0);
        y.move(1, 0, 0);
        counts("28 two moves", y, 1, 4, 1, 0, 0, 3, 2, 1, 1);
        counts("28 none of them", y, 0, 2, 1, 0, 0, 1, 1, 0, 1);
        y.insert(0, 1, 1);
        c.due("28 one behind another", 2, y.count(0, 7));
        c.due("28 at its own depth", 1, y.count(1, 7));
        for (int s : NO_SITES) {
            c.due("28 site", -1, x.count(s, 0));
        }
        c.due("28 what", -1, x.count(0, 8));
        c.due("28 what", -1, x.count(0, -1));
        c.due("28 what", -1, x.count(0, LOW));
    }

    private void countForgotten28() {
        MovingList x = new MovingList();
        Check.write(x, 0, "abc");
        x.move(0, 2, 0);
        x.move(0, 0, 1);
        x.drop(0, 1);
        x.drop(0, 0);
        Check.syncAll(x);
        Check.tellAll(x, 0);
        // a (1) is gone but b (2) stands behind its place; c (3, 4, 5) is gone with all places.
        counts("28 ahead of it", x, 0, 6, 3, 2, 3, 7, 7, 1, 3);
        c.due("28 swept", 3, x.sweep(0));
        c.dueText("28 places", "0 1 2", Check.places(x, 0));
        counts("28 behind it", x, 0, 3, 2, 1, 0, 7, 7, 0, 2);
        counts("28 not swept", x, 1, 6, 3, 2, 0, 7, 0, 1, 3);
        // Moves that are past count, though their places were swept.
        MovingList y = new MovingList();
        Check.write(y, 0, "ab");
        y.move(0, 1, 0);
        y.move(0, 0, 0);
        Check.syncAll(y);
        Check.tellAll(y, 0);
        c.due("28 swept", 2, y.sweep(0));
        c.due("28 past moves", 1, y.count(0, 6));
        c.due("28 moved", 2, y.at(0, 0, 3));
    }

    private void place29() {
        MovingList x = new MovingList();
        Check.write(x, 0, "abc");
        x.move(0, 2, 0);
        x.insert(1, 0, 0);
        x.sync(1, 0);
        c.dueText("29 order", "0 4 101 1 2 3", Check.places(x, 0));
        c.due("29 the head", 0, x.place(0, 0));
        c.due("29 beyond", -1, x.place(0, 6));
        c.due("29 below", -1, x.place(0, -1));
        c.due("29 far", -1, x.place(0, HIGH));
        c.due("29 far below", -1, x.place(0, LOW));
        c.due("29 another", -1, x.place(2, 1));
        for (int s : NO_SITES) {
            c.due("29 site", -1, x.place(s, 0));
        }
    }

    private void unlike30() {
        MovingList x = new MovingList();
        c.due("30 none", 0, x.unlike(0, 1));
        Check.write(x, 0, "abcd");
        c.due("30 lengths", 4, x.unlike(0, 1));
        c.due("30 lengths", 4, x.unlike(1, 0));
        c.due("30 itself", 0, x.unlike(0, 0));
        x.sync(0, 1);
        c.due("30 alike", 0, x.unlike(0, 1));
        x.change(0, 0, 9);
        c.due("30 letters do not count", 0, x.unlike(0, 1));
        x.move(0, 0, 1);
        c.due("30 two", 2, x.unlike(0, 1));
        x.drop(1, 3);
        c.due("30 and one beyond", 3, x.unlike(0, 1));
        for (int s : NO_SITES) {
            c.due("30 one", -1, x.unlike(s, 0));
            c.due("30 other", -1, x.unlike(0, s));
        }
    }

    private void edits31() {
        MovingList x = new MovingList();
        c.due("31 none", 0, x.edits(0, 1));
        Check.write(x, 0, "abcdef");
        c.due("31 all put in", 6, x.edits(1, 0));
        c.due("31 all taken", 6, x.edits(0, 1));
        c.due("31 itself", 0, x.edits(0, 0));
        x.sync(0, 1);
        c.due("31 alike", 0, x.edits(0, 1));
        x.move(0, 0, 5);
        c.due("31 one taken and put in", 2, x.edits(0, 1));
        x.drop(1, 2);
        c.due("31 one more", 3, x.edits(0, 1));
        x.insert(1, 0, 9);
        c.due("31 one more", 4, x.edits(0, 1));
        c.due("31 the other way round", 4, x.edits(1, 0));
        MovingList y = new MovingList();
        Check.write(y, 0, "abcd");
        y.sync(0, 1);
        for (int k = 1; k < 4; k++) {
            y.move(1, k, 0);
        }
        c.dueText("31 backwards", "dcba", Check.letters(y, 1));
        c.due("31 all but one", 6, y.edits(0, 1));
        for (int s : NO_SITES) {
            c.due("31 one", -1, x.edits(s, 0));
            c.due("31 other", -1, x.edits(0, s));
        }
    }

    private void settled32() {
        MovingList x = new MovingList();
        c.due("32 none", 0, x.settled(-1, 0));
        c.due("32 none such", -1, x.settled(0, 0));
        Check.write(x, 0, "ab");
        x.insert(1, 0, 2);
        x.change(1, 0, 20);
        x.lose(2, 0);
        x.lose(2, 0);
        // At the head 101 is as old as 1, but of the greater site.
        c.due("32 how many", 3, x.settled(-1, 0));
        c.due("32 how many", 3, x.settled(-1, 1));
        c.due("32 names", 101, x.settled(0, 0));
        c.due("32 names", 1, x.settled(1, 0));
        c.due("32 names", 2, x.settled(2, 0));
        c.due("32 letters", 20, x.settled(0, 1));
        c.due("32 letters", 1, x.settled(2, 1));
        c.due("32 beyond", -1, x.settled(3, 0));
        c.due("32 beyond", -1, x.settled(3, 1));
        c.due("32 below", -1, x.settled(-2, 0));
        c.due("32 below", -1, x.settled(-2, 1));
        c.due("32 what", -1, x.settled(0, 2));
        c.due("32 what", -1, x.settled(0, -1));
        x.drop(0, 0);
        c.due("32 dropped", 2, x.settled(-1, 0));
        Check.syncAll(x);
        for (int i = 0; i < 2; i++) {
            c.due("32 what all show", x.settled(i, 0), x.at(2, i, 0));
            c.due("32 what all show", x.settled(i, 1), x.at(2, i, 1));
        }
        Check.tellAll(x, 0);
        x.sweep(0);
        c.due("32 whatever was swept", 101, x.settled(0, 0));
    }

    private void feed33() {
        MovingList x = new MovingList();
        for (int k = 1; k <= 20; k++) {
            c.due("33 feed", 20 * k, x.feed(LOW, HIGH, -1, 0, 1));
        }
        c.due("33 full", -1, x.feed(0, 0, 0, 0, 0));
        c.due("33 none came", 400, x.all(5));
        // The highest byte first: all; all; all; all; sweep is cut off.
        MovingList y = new MovingList();
        int all = 'a' << 24 | 'l' << 16 | 'l' << 8 | ';';
        c.due("33 feed", 20, y.feed(all, all, all, all, all));
        c.due("33 in order", 5, y.script(20));
        y.feed(all, all, all, all, ';' << 24);
        c.due("33 in order", -2 - (8 * 16 + 1), y.script(20));
        y.feed(all, all, 0x80000000, all, all);
        c.due("33 a high byte is no sign", -2 - (8 * 8 + 1), y.script(20));
    }

    private void scriptDeeds34() {
        MovingList x = new MovingList();
        c.due("34 insert", 3, Check.script(x, "insert 0 0 a; insert 0 1 z;insert 0 2 c ;"));
        c.dueText("34 letters", "azc", Check.letters(x, 0));
        c.due("34 move", 1, Check.script(x, "move 0 2 0;"));
        c.dueText("34 letters", "caz", Check.letters(x, 0));
        c.due("34 drop", 1, Check.script(x, "drop 0 1;"));
        c.dueText("34 letters", "cz", Check.letters(x, 0));
        c.due("34 change", 1, Check.script(x, "change 0 1 m;"));
        c.dueText("34 letters", "cm", Check.letters(x, 0));
        c.due("34 deliver", 1, Check.script(x, "deliver 1 1;"));
        c.due("34 held", 2, x.post(1, 1, 0));
        c.due("34 lose", 1, Check.script(x, "lose 1 1;"));
        c.due("34 lost", 1, x.all(4));
        c.due("34 twice", 1, Check.script(x, "twice 1 0;"));
        c.due("34 came twice", 1, x.post(1, 0, x.post(1, 0, -1) - 1));
        c.due("34 sync", 1, Check.script(x, "sync 0 1;"));
        c.due("34 synced", 6, x.vector(1, 0));
        c.due("34 tell", 1, Check.script(x, "tell 1 0;"));
        c.due("34 told", 6, x.knows(0, 1, 0));
        c.due("34 all", 1, Check.script(x, "all;"));
        c.due("34 none waits", 0, x.all(2));
        c.dueText("34 letters", "cm", Check.letters(x, 2));
        c.due("34 sweep", 2, Check.script(x, "tell 2 0; sweep 0;"));
        c.due("34 swept", 0, x.count(0, 3));
        c.due("34 no blanks", 2, Check.script(x, "insert0 0a;sweep2;"));
        c.due("34 blanks", 2, Check.script(x, " \n insert\n0\n 000\nb\n;\n\nsweep 002 ; \n"));
        c.dueText("34 letters", "bacm", Check.letters(x, 0));
        c.due("34 till one is refused", 1, Check.script(x, "drop 0 0; drop 0 99; drop 0 0;"));
        c.due("34 the rest is not done", 3, x.length(0));
        c.due("34 a tell refused", 0, Check.script(x, "tell 0 2; drop 0 0;"));
        c.due("34 a site that is none", 0, Check.script(x, "sweep 3;"));
        c.due("34 a site and itself", 0, Check.script(x, "sync 1 1;"));
        c.due("34 a site of three digits", 0, Check.script(x, "sweep 999;"));
        c.due("34 all delivers upwards, held ones too", 2, Check.script(x, "deliver 1 2; all;"));
        c.due("34 none waits", 0, x.all(2));
        c.due("34 none held", 0, x.all(3));
        c.due("34 one list", 1, x.all(6));
    }

    private void fault(String text, int place, int kind) {
        MovingList x = new MovingList();
        int answer = Check.script(x, text);
        c.due("34 fault of " + text, -2 - (8 * place + kind), answer);
        c.due("34 nothing is done by " + text, 0, x.all(1));
        c.due("34 the tape is empty", 0, x.all(5));
    }

    private void scriptFaults34() {
        String put = "insert 0 0 a; ";
        fault(put + "drop 0 0", 22, 1);
        fault(put + "drop 0 0 ", 23, 1);
        fault(put + "drop 0;", 20, 1);
        fault(put + "drop 0 0 0;", 23, 1);
        fault(put + "dropp 0 0;", 14, 1);
        fault(put + "dro 0 0;", 14, 1);
        fault(put + ";", 14, 1);
        fault(put + "12;", 14, 1);
        fault(put + "1234;", 14, 1);
        fault(put + "Drop 0 0;", 14, 1);
        fault(put + "drop\t0 0;", 18, 1);
        fault(put + "drop -1 0;", 19, 1);
        fault(put + "drop a 0;", 19, 1);
        fault(put + "drop 0 aa;", 21, 1);
        fault(put + "drop 0 1234;", 21, 2);
        fault(put + "drop 12345678901234567890 0;", 19, 2);
        fault(put + "drop 0000 aa;", 19, 2);
        fault(put + "drop 0 0 1234;", 23, 1);
        fault("insert 0 0 ab;", 11, 2);
        fault("insert 0 0 abc 0;", 11, 2);
        fault("insert 0 0 1;", 11, 1);
        fault("insert 0 0 1234;", 11, 1);
        fault("insert 0 0 A;", 11, 1);
        fault("insert 0 0;", 10, 1);
        fault("insert 0 0", 10, 1);
        fault("insert 0 0 a", 12, 1);
        fault("insert 0 0 a b;", 13, 1);
        fault("insert", 6, 1);
        fault("insertx 0 0 a;", 0, 1);
        fault("insert 000a;", 10, 1);
        fault("all 0;", 4, 1);
        fault("revert 0;", 0, 1);
        fault("x", 0, 1);
        fault("xrop 0 0;", 0, 1);
        fault("drox 0 0;", 0, 1);
        fault(put + "\377", 14, 1);
        fault(put + "\0", 14, 1);
    }

    private void scriptTape34() {
        MovingList x = new MovingList();
        c.due("34 empty", 0, x.script(0));
        c.due("34 not so many", -1, x.script(1));
        Check.feed(x, "insert 0 0 a;insert 0 0 b;");
        c.due("34 fed", 40, x.all(5));
        for (int n : new int[] {41, -1, LOW, HIGH}) {
            c.due("34 n " + n, -1, x.script(n));
        }
        c.due("34 the tape stays", 40, x.all(5));
        c.due("34 the first 13 bytes", 1, x.script(13));
        c.due("34 empty then", 0, x.all(5));
        c.dueText("34 letters", "a", Check.letters(x, 0));
        Check.feed(x, "insert 0 0 c;");
        c.due("34 none of it", 0, x.script(0));
        c.due("34 empty then", 0, x.all(5));
        StringBuilder most = new StringBuilder();
        for (int k = 0; k < 100; k++) {
            most.append("all;");
        }
        c.due("34 a hundred deeds", 100, Check.script(x, most.toString()));
        most.setCharAt(399, ' ');
        c.due("34 the end of a full tape", -2 - (8 * 400 + 1), Check.script(x, most.toString()));
    }

    private void image35() {
        MovingList x = new MovingList();
        c.due("35 image", true, x.image(0));
        c.due("35 image", true, x.image(1));
        for (int i : new int[] {-1, 2, LOW, HIGH}) {
            c.due("35 image " + i, false, x.image(i));
        }
        Check.write(x, 0, "ab");
        c.due("35 made anew", true, x.image(0));
        x.drop(0, 0);
        c.due("35 back", true, x.back(0));
        c.dueText("35 the newer one", "ab", Check.letters(x, 0));
        c.due("35 the other one", true, x.back(1));
        c.due("35 is as it was", 0, x.all(1));
    }

    private static MovingList toKeep() {
        MovingList x = new MovingList();
        x.sites(4);
        Check.write(x, 0, "abc");
        x.drop(0, 2);
        x.sync(0, 1);
        x.sync(0, 3);
        x.tell(1, 0);
        x.tell(3, 0);
        x.deliver(2, 1);
        x.lose(3, 0);
        return x;
    }

    private void back36() {
        MovingList x = toKeep();
        c.due("36 none made", false, x.back(0));
        x.image(1);
        for (int i : new int[] {0, -1, 2, LOW, HIGH}) {
            c.due("36 image " + i, false, x.back(i));
        }
        Check.feed(x, "all;");
        x.lose(1, 0);
        x.move(1, 0, 0);
        x.chance(60, 3);
        Check.syncAll(x);
        Check.tellAll(x, 0);
        x.sweep(0);
        c.due("36 back", true, x.back(1));
        c.due("36 the tape is not of the group", 20, x.all(5));
        c.due("36 names begin again", 5, x.insert(0, 0, 9));
        x.deliver(2, 0);
        c.due("36 as often as one likes", true, x.back(1));
        x.sync(0, 2);
        x.tell(2, 0);
        c.due("36 swept", 1, x.sweep(0));
        c.due("36 back", true, x.back(1));
        c.due("36 sweeping too is taken back", 4, x.count(0, 0));
        c.dueText("36 all is as it was", Check.group(toKeep()), Check.group(x));
    }

    private static void doOne(MovingList x) {
        x.sync(0, 1);
        x.move(1, 0, 2);
        x.change(0, 1, 20);
        x.insert(0, 0, 21);
        x.drop(0, 3);
        x.sync(1, 0);
    }

    /** Two images whose ops bear the same names. */
    private void backToOtherOps36() {
        MovingList x = new MovingList();
        Check.write(x, 0, "abc");
        x.image(0);
        doOne(x);
        x.image(1);
        x.back(0);
        x.drop(0, 2);
        x.sync(0, 2);
        x.move(0, 1, 0);
        x.move(0, 1, 0);
        x.insert(1, 0, 8);
        x.insert(2, 0, 9);
        x.sync(2, 1);
        c.due("36 the other one", true, x.back(1));
        MovingList y = new MovingList();
        Check.write(y, 0, "abc");
        doOne(y);
        c.dueText("36 its own ops", Check.group(y), Check.group(x));
        Check.syncAll(x);
        c.due("36 one list", 1, x.all(6));
    }

    private void all37() {
        MovingList x = new MovingList();
        x.sites(4);
        c.due("37 sites", 4, x.all(0));
        Check.write(x, 0, "ab");
        x.insert(1, 0, 3);
        c.due("37 ops", 3, x.all(1));
        c.due("37 waiting", 9, x.all(2));
        c.due("37 held", 0, x.all(3));
        x.deliver(2, 1);
        x.deliver(3, 1);
        c.due("37 waiting", 7, x.all(2));
        c.due("37 held", 2, x.all(3));
        x.lose(1, 0);
        x.lose(0, 0);
        c.due("37 lost", 2, x.all(4));
        Check.feed(x, "x");
        c.due("37 tape", 20, x.all(5));
        c.due("37 not one list", 0, x.all(6));
        c.due("37 not done by some", 3, x.all(7));
        x.sync(0, 1);
        x.sync(0, 2);
        x.sync(0, 3);
        c.due("37 one of these everywhere but at 0", 1, x.all(7));
        Check.syncAll(x);
        c.due("37 all done", 0, x.all(7));
        c.due("37 one list", 1, x.all(6));
        x.change(3, 0, 20);
        c.due("37 letters count", 0, x.all(6));
        x.change(3, 0, 3);
        c.due("37 one list, though not all is done", 1, x.all(6));
        c.due("37 not done by some", 2, x.all(7));
        x.insert(3, 3, 0);
        c.due("37 longer", 0, x.all(6));
        for (int what : new int[] {-1, 8, LOW, HIGH}) {
            c.due("37 what", -1, x.all(what));
        }
    }

    /** What is counted over all sites is counted at each of them. */
    private void allOfEach37() {
        for (int s = 0; s < 3; s++) {
            MovingList x = new MovingList();
            int t = (s + 1) % 3;
            Check.write(x, t, "ab");
            c.due("37 only at " + t, 0, x.all(6));
            x.deliver(s, 1);
            c.due("37 held at " + s, 1, x.all(3));
            x.deliver(s, 0);
            c.due("37 done at " + s, 0, x.all(3));
            c.due("37 lacking at one", 2, x.all(7));
            Check.syncAll(x);
            x.change(s, 0, 9);
            c.due("37 another letter at " + s, 0, x.all(6));
            MovingList y = new MovingList();
            Check.write(y, t, "ab");
            y.sync(t, 3 - s - t);
            c.due("37 lacking at " + s, 2, y.all(7));
            c.due("34 all", 1, Check.script(y, "all;"));
            c.due("34 delivered at " + s, 2, y.length(s));
            y.deliver(s, 0);
            y.move(s, 1, 0);
            c.due("37 moved at " + s, 0, y.all(6));
        }
        MovingList z = new MovingList();
        for (int s = 0; s < 3; s++) {
            z.insert(s, 0, 4);
        }
        c.due("37 like letters, unlike names", 0, z.all(6));
    }

    private void forty() {
        MovingList x = new MovingList();
        x.sites(5);
        for (int k = 1; k <= 40; k++) {
            for (int s = 0; s < 5; s++) {
                c.due("3 forty", 100 * s + k, x.insert(s, k - 1, k % 26));
            }
        }
        for (int s = 0; s < 5; s++) {
            c.due("3 no more", -1, x.insert(s, 0, 0));
            c.due("4 no more", -1, x.move(s, 0, 1));
            c.due("5 no more", -1, x.drop(s, 0));
            c.due("6 no more", -1, x.change(s, 0, 0));
            c.due("7 no more", -1, x.revert(s));
            c.due("28 made", 40, x.count(s, 5));
            c.due("21 sixty wait", 60, x.post(s, 0, -1));
        }
        c.due("37 lost", 5 * (160 - 60), x.all(4));
        c.due("37 ops", 200, x.all(1));
        c.due("8 no op, but deliveries and syncs", true, x.chance(60, 11) > 0);
        c.due("37 ops", 200, x.all(1));
        Check.syncAll(x);
        c.due("37 one list", 1, x.all(6));
        c.due("15 two hundred", 200, x.length(4));
        c.due("28 as deep as one row", 40, x.count(0, 7));
        c.due("32 two hundred", 200, x.settled(-1, 0));
        c.due("31 alike", 0, x.edits(0, 4));
        c.due("29 the last place", true, x.place(0, 200) > 0);
        // One row of two hundred, each behind the last one.
        MovingList y = new MovingList();
        y.sites(5);
        for (int s = 0; s < 5; s++) {
            for (int k = 1; k <= 40; k++) {
                y.insert(s, 40 * s + k - 1, 0);
            }
            y.sync(s, (s + 1) % 5);
        }
        c.due("28 two hundred deep", 200, y.count(4, 7));
        c.due("22 the last time", 200, y.op(440, 1));
        for (int k = 60; k > 0; k--) {
            y.deliver(3, 59 < y.post(3, 0, -1) ? 59 : y.post(3, 0, -1) - 1);
        }
        c.due("37 nothing waits at 3", 0, y.post(3, 0, -1));
    }
}
