import java.util.ArrayList;
import java.util.List;

/**
 * The sentences on the tape, on scripts and on images that name a boundary case, each with a test
 * of its own: just inside, just outside, and what later calls show.
 */
public final class ScriptEdgeTest {
    private static final int LOW = Integer.MIN_VALUE;
    private static final int HIGH = Integer.MAX_VALUE;

    private final Check c = new Check();

    public static void main(String[] args) {
        ScriptEdgeTest t = new ScriptEdgeTest();
        t.feedUpTo400();
        t.feedHighestFirst();
        t.scriptUpToTheTape();
        t.scriptEmptiesTheTape();
        t.scriptOf400Bytes();
        t.scriptOfNoDeed();
        t.blanks();
        t.noBlanks();
        t.otherBytes();
        t.wordsAsFarAsTheyGo();
        t.numbersOfOneToThreeDigits();
        t.lettersAtoZ();
        t.eachTokenOfEachDeed();
        t.eachDeedCutOff();
        t.firstFaultAlongTheText();
        t.nothingIsDoneThen();
        t.eachDeedAsItsCall();
        t.eachDeedRefused();
        t.notRefusedThoughNothingWasDone();
        t.allDelivers();
        t.imagesZeroAndOne();
        t.backOnlyIfOneWasMade();
        t.imageOfAllOfTheGroup();
        t.imageGoesOn();
        t.imageOfOpsOfLikeNames();
        t.imageMadeAnew();
        t.imageAndTape();
        t.sitesTakesImages();
        t.c.end();
    }

    // ---- the tape

    private static MovingList fed(int times) {
        MovingList x = new MovingList();
        for (int k = 0; k < times; k++) {
            x.feed(0x616c6c3b, 0x20202020, 0x20202020, 0x20202020, 0x20202020);
        }
        return x;
    }

    /** "20 bytes come: how many it has; NONE, and none come, if it would have more than 400." */
    private void feedUpTo400() {
        MovingList x = new MovingList();
        c.due("an empty tape", 0, x.all(5));
        for (int k = 1; k <= 20; k++) {
            c.due("20 more", 20 * k, x.feed(k, k, k, k, k));
            c.due("it has", 20 * k, x.all(5));
        }
        c.refused("beyond 400", -1, () -> fed(20), y -> y.feed(0, 0, 0, 0, 0));
        MovingList z = fed(20);
        z.feed(HIGH, LOW, 0, -1, 1);
        c.due("none of these came: twenty deeds", 20, z.script(400));
        c.due("then there is room", 20, z.feed(0, 0, 0, 0, 0));
    }

    /** "of each number the highest first". */
    private void feedHighestFirst() {
        MovingList x = new MovingList();
        // "swee" "p 1;" "swee" "p 0;" "    "
        x.feed(0x73776565, 0x7020313b, 0x73776565, 0x7020303b, 0x20202020);
        c.due("two deeds", 2, x.script(20));
        // The last byte of the last number is the 20th.
        x.feed(0x20202020, 0x20202020, 0x20202020, 0x20202020, 0x20202021);
        c.due("a fault at 19", -2 - (8 * 19 + 1), x.script(20));
        x.feed(0x21202020, 0x20202020, 0x20202020, 0x20202020, 0x20202020);
        c.due("a fault at 0", -2 - 1, x.script(20));
        x.feed(0x20202020, 0xff202020, 0x20202020, 0x20202020, 0x20202020);
        c.due("a fault at 4", -2 - (8 * 4 + 1), x.script(20));
        x.feed(0x20202020, 0x20202020, 0x2020ff20, 0x20202020, 0x20202020);
        c.due("a fault at 10", -2 - (8 * 10 + 1), x.script(20));
        x.feed(0x20202020, 0x20202020, 0x20202020, 0x20ff2020, 0x20202020);
        c.due("a fault at 13", -2 - (8 * 13 + 1), x.script(20));
    }

    /** "NONE: it has not so many, n is below 0 (the TAPE stays)." */
    private void scriptUpToTheTape() {
        c.due("all of it", 2, fed(2).script(40));
        c.due("one less", 2, fed(2).script(39));
        for (int n : new int[] {41, 42, 400, 401, -1, -40, LOW, HIGH}) {
            c.refused("script(" + n + ")", -1, () -> fed(2), x -> x.script(n));
        }
        MovingList x = fed(2);
        x.script(41);
        x.script(-1);
        c.due("what it had is there still", 2, x.script(40));
        c.due("of an empty tape none", 0, new MovingList().script(0));
        c.refused("of an empty tape one", -1, MovingList::new, y -> y.script(1));
        c.refused("of an empty tape less", -1, MovingList::new, y -> y.script(-1));
    }

    /** "The first n bytes of the TAPE (empty then)". */
    private void scriptEmptiesTheTape() {
        for (int n : new int[] {0, 1, 4, 20, 39, 40}) {
            MovingList x = fed(2);
            x.script(n);
            c.due("empty then", 0, x.all(5));
            c.due("nothing is left of it", -1, x.script(1));
            c.due("fed anew", 20, x.feed(0x616c6c3b, 0, 0, 0, 0));
            c.due("from its begin", 1, x.script(4));
        }
        MovingList y = fed(1);
        y.feed(0x5a5a5a5a, 0, 0, 0, 0);
        c.due("the bytes behind n do not matter", 1, y.script(20));
        MovingList z = fed(1);
        z.feed(0x5a5a5a5a, 0, 0, 0, 0);
        c.due("a fault", -2 - (8 * 20 + 1), z.script(40));
        c.due("empties it too", 0, z.all(5));
        MovingList v = new MovingList();
        Check.feed(v, "drop 0 0;");
        c.due("a deed that is refused", 0, v.script(9));
        c.due("empties it too", 0, v.all(5));
    }

    private static String repeat(String text, int times) {
        StringBuilder all = new StringBuilder();
        for (int k = 0; k < times; k++) {
            all.append(text);
        }
        return all.toString();
    }

    /** "A SCRIPT is a text of at most 400 bytes". */
    private void scriptOf400Bytes() {
        MovingList x = new MovingList();
        c.due("a hundred deeds", 100, Check.script(x, repeat("all;", 100)));
        c.due("forty of ten bytes", 40, Check.script(x, repeat("sweep 001;", 40)));
        c.due("400 blanks", 0, Check.script(x, repeat(" ", 400)));
        c.due("its end", -2 - (8 * 400 + 1), Check.script(x, repeat("all;", 99) + "all "));
        c.due("the last byte", -2 - (8 * 399 + 1), Check.script(x, repeat("all;", 99) + "all,"));
        c.due("a word of 400 letters", -2 - 1, Check.script(x, repeat("a", 400)));
        c.due("a number of 395 digits", -2 - (8 * 5 + 2),
                Check.script(x, "sweep" + repeat("9", 395)));
        c.due("a letter of 389", -2 - (8 * 11 + 2),
                Check.script(x, "insert 0 0 " + repeat("a", 389)));
        c.due("nothing was made", 0, x.all(1));
    }

    // ---- tokens

    /** "{ DEED ; }": also none. */
    private void scriptOfNoDeed() {
        for (String text : new String[] {"", " ", "\n", " \n \n\n  "}) {
            MovingList x = new MovingList();
            c.due("no deed", 0, Check.script(x, text));
        }
        c.due("; alone", -2 - 1, Check.script(new MovingList(), ";"));
        c.due("; behind ;", -2 - (8 * 4 + 1), Check.script(new MovingList(), "all;;"));
        c.due("; behind ;", -2 - (8 * 5 + 1), Check.script(new MovingList(), "all; ;"));
        c.due("one deed", 1, Check.script(new MovingList(), "all;"));
        c.due("two deeds", 2, Check.script(new MovingList(), "all;all;"));
    }

    /** "with blanks (32, 10) between TOKENS or not". */
    private void blanks() {
        for (String blank : new String[] {" ", "\n", "  ", "\n\n", " \n", "\n "}) {
            MovingList x = new MovingList();
            String text = blank + "insert" + blank + "0" + blank + "0" + blank + "c" + blank + ";"
                    + blank + "all" + blank + ";" + blank;
            c.due("blanks", 2, Check.script(x, text));
            c.dueText("letters", "c", Check.letters(x, 1));
        }
        // Within a token they part it in two.
        fault("ins ert 0 0 c;", 0, 1);
        fault("al l;", 0, 1);
        fault("move 0 0 0 0;", 11, 1);
        fault("insert 0 0 a b;", 13, 1);
    }

    private void noBlanks() {
        MovingList x = new MovingList();
        c.due("as few as can be", 4, Check.script(x, "insert0 0c;move0 0 0;change0 0d;all;"));
        c.dueText("letters", "d", Check.letters(x, 2));
        c.due("a number, then a letter", 1, Check.script(x, "insert0 1z;"));
        c.due("three digits, then a letter", 1, Check.script(x, "insert000 000y;"));
        fault("insert00c;", 8, 1);
        fault("allall;", 0, 1);
        fault("all;0", 4, 1);
    }

    /** Any other byte can't stand anywhere. */
    private void otherBytes() {
        for (int b = 0; b < 256; b++) {
            boolean letter = b >= 'a' && b <= 'z';
            boolean digit = b >= '0' && b <= '9';
            char sign = (char) b;
            if (b != ' ' && b != '\n') {
                fault(sign + "all;", 0, 1);
                if (b != ';') {
                    fault("all;" + sign, 4, 1);
                }
            }
            if (b != ' ' && b != '\n' && b != ';' && !letter) {
                fault("all" + sign + ";", 3, 1);
            }
            if (b != ' ' && b != '\n' && !digit) {
                fault("sweep " + sign + "0;", 6, 1);
            }
            if (b != ' ' && b != '\n' && b != ';' && !digit) {
                fault("sweep 0" + sign + ";", 7, 1);
            }
            if (b != ' ' && b != '\n' && !letter) {
                fault("insert 0 0 " + sign + "c;", 11, 1);
            }
        }
    }

    /** "words of small letters .. as far as these go on". */
    private void wordsAsFarAsTheyGo() {
        for (Shape shape : SHAPES) {
            String rest = shape.text().substring(shape.word.length());
            fault(shape.word + "a" + rest, 0, 1);
            fault("a" + shape.word + rest, 0, 1);
            fault(shape.word.substring(1) + rest, 0, 1);
            fault(shape.word.substring(0, shape.word.length() - 1) + rest, 0, 1);
            fault(shape.word.substring(0, shape.word.length() - 1) + "z" + rest, 0, 1);
            fault(Character.toUpperCase(shape.word.charAt(0)) + shape.word.substring(1) + rest, 0,
                    1);
        }
        fault("revert 0;", 0, 1);
        fault("sites 3;", 0, 1);
        fault("image 0;", 0, 1);
        fault("chance 1 1;", 0, 1);
        fault("a;", 0, 1);
        fault("insertinsert 0 0 a;", 0, 1);
    }

    /** "NUMBERS of 1 to 3 digits"; "2 a NUMBER of four digits or more (at it)". */
    private void numbersOfOneToThreeDigits() {
        for (String number : new String[] {"1", "01", "001"}) {
            MovingList x = new MovingList();
            c.due("sweep " + number, 1, Check.script(x, "sweep " + number + ";"));
            c.due("insert", 1, Check.script(x, "insert " + number + " 0 c;"));
            c.due("at that site", 1, x.length(1));
        }
        for (String number : new String[] {"0001", "0000", "1000", "9999", "12345", "4294967296",
            "4294967297", "18446744073709551616", "00000000000000000001"}) {
            fault("sweep " + number + ";", 6, 2);
            fault("drop 0 " + number + ";", 7, 2);
            fault("move 0 0 " + number + ";", 9, 2);
            fault("move 0 " + number + " 0;", 7, 2);
        }
        for (String number : new String[] {"3", "9", "10", "99", "100", "256", "999"}) {
            MovingList x = new MovingList();
            c.due("no such site " + number, 0, Check.script(x, "sweep " + number + ";"));
            c.due("no such index " + number, 0, Check.script(x, "insert 0 " + number + " c;"));
        }
        // An index of two digits is taken as it stands.
        MovingList y = new MovingList();
        Check.write(y, 0, "abcdefghijklm");
        c.due("drop 0 12", 1, Check.script(y, "drop 0 12;"));
        c.dueText("letters", "abcdefghijkl", Check.letters(y, 0));
        c.due("move 0 010 011", 1, Check.script(y, "move 0 010 011;"));
        c.dueText("letters", "abcdefghijlk", Check.letters(y, 0));
    }

    /** "LETTER (one letter a to z)"; "a word of more letters where a LETTER has to stand". */
    private void lettersAtoZ() {
        for (char letter = 'a'; letter <= 'z'; letter++) {
            MovingList x = new MovingList();
            c.due("insert", 1, Check.script(x, "insert 0 0 " + letter + ";"));
            c.due("its letter", letter - 'a', x.at(0, 0, 1));
            c.due("change", 1, Check.script(x, "change 0 0 " + (char) ('z' + 'a' - letter) + ";"));
            c.due("its letter", 25 - (letter - 'a'), x.at(0, 0, 1));
        }
        for (String word : new String[] {"aa", "ab", "abc", "all", "insert"}) {
            fault("insert 0 0 " + word + ";", 11, 2);
            fault("change 0 0 " + word + ";", 11, 2);
        }
        for (String sign : new String[] {"`", "{", "A", "Z", "@", "[", "0", "9", "/", ":"}) {
            fault("insert 0 0 " + sign + ";", 11, 1);
            fault("change 0 0 " + sign + ";", 11, 1);
        }
        // Elsewhere a word of more letters is fault 1.
        fault("drop 0 aa;", 7, 1);
        fault("drop a 0;", 5, 1);
        fault("all aa;", 4, 1);
        fault("aa;", 0, 1);
    }

    // ---- deeds

    private record Shape(String word, String kinds) {
        /** The deed with numbers and a letter that it can stand with. */
        String text() {
            return String.join(" ", tokens());
        }

        List<String> tokens() {
            List<String> all = new ArrayList<>();
            all.add(word);
            for (char kind : kinds.toCharArray()) {
                all.add(kind == 'n' ? "0" : kind == 'l' ? "c" : ";");
            }
            return all;
        }
    }

    private static final Shape[] SHAPES = {
        new Shape("insert", "nnl;"), new Shape("move", "nnn;"), new Shape("drop", "nn;"),
        new Shape("change", "nnl;"), new Shape("deliver", "nn;"), new Shape("lose", "nn;"),
        new Shape("twice", "nn;"), new Shape("sync", "nn;"), new Shape("tell", "nn;"),
        new Shape("sweep", "n;"), new Shape("all", ";"),
    };

    /** A script that has a fault, on objects that have something to lose. */
    private void fault(String text, int place, int kind) {
        MovingList x = new MovingList();
        x.insert(0, 0, 0);
        c.due("fault of " + text, -2 - (8 * place + kind), Check.script(x, text));
        c.due("nothing is done", 1, x.all(1));
        c.due("nothing is delivered", 2, x.all(2));
        c.due("the tape is empty", 0, x.all(5));
    }

    private void noFault(String text) {
        MovingList x = new MovingList();
        x.insert(0, 0, 0);
        c.due("no fault in " + text, true, Check.script(x, text) >= 0);
    }

    /** "1 what can't stand there (its place ..)": each kind of token for each one of each deed. */
    private void eachTokenOfEachDeed() {
        String[] others = {"zz", "q", "7", ";", "%"};
        for (Shape shape : SHAPES) {
            List<String> tokens = shape.tokens();
            noFault(shape.text());
            for (int k = 0; k < tokens.size(); k++) {
                for (String other : others) {
                    List<String> changed = new ArrayList<>(tokens);
                    changed.set(k, other);
                    String ahead = String.join(" ", changed.subList(0, k));
                    int place = k == 0 ? 0 : ahead.length() + 1;
                    int kind = kindOf(k == 0 ? 'w' : shape.kinds.charAt(k - 1), other);
                    String text = String.join(" ", changed);
                    if (kind == 0) {
                        noFault(text);
                    } else {
                        fault("all; " + text, place + 5, kind);
                    }
                }
                // One more token ahead of each; ";" ahead of the first one.
                List<String> more = new ArrayList<>(tokens);
                more.add(k, "%");
                int place = k == 0 ? 0 : String.join(" ", more.subList(0, k)).length() + 1;
                fault(String.join(" ", more), place, 1);
            }
        }
    }

    /** The fault of a token where one of another kind has to stand; 0 if it can. */
    private static int kindOf(char due, String token) {
        if (due == 'n' && token.equals("7") || due == 'l' && token.equals("q")
                || due == ';' && token.equals(";")) {
            return 0;
        }
        return due == 'l' && token.equals("zz") ? 2 : 1;
    }

    /** "(.. the end: how many bytes there are)". */
    private void eachDeedCutOff() {
        for (Shape shape : SHAPES) {
            String text = shape.text();
            List<String> tokens = shape.tokens();
            for (int k = 1; k < tokens.size(); k++) {
                String cut = String.join(" ", tokens.subList(0, k));
                fault(cut, cut.length(), 1);
                fault(cut + " ", cut.length() + 1, 1);
                fault(cut + "\n\n", cut.length() + 2, 1);
            }
            // A number is as long as what is read of it, whatever comes on the tape.
            MovingList x = new MovingList();
            Check.feed(x, text);
            c.due("cut by n", -2 - (8 * (text.length() - 1) + 1), x.script(text.length() - 1));
        }
        MovingList y = new MovingList();
        Check.feed(y, "sweep 0000;");
        c.due("three digits of four, then the end", -2 - (8 * 9 + 1), y.script(9));
        Check.feed(y, "insert 0 0 cc;");
        c.due("one letter of two, then the end", -2 - (8 * 12 + 1), y.script(12));
    }

    /** "FAULTS, the first along the text". */
    private void firstFaultAlongTheText() {
        fault("drop 0 1234; xx;", 7, 2);
        fault("xx; drop 0 1234;", 0, 1);
        fault("insert 0 0 aa 1;", 11, 2);
        fault("insert 0 0 1 aa;", 11, 1);
        fault("insert 1234 0 aa;", 7, 2);
        fault("move 0 % 1234;", 7, 1);
        fault("all; all; all; drop 0;", 21, 1);
    }

    /** "nothing is done then", whatever stands ahead of it; a fault goes before a refusal. */
    private void nothingIsDoneThen() {
        c.refused("a fault behind deeds", -2 - (8 * 46 + 1), () -> {
            MovingList x = new MovingList();
            Check.write(x, 0, "abc");
            return x;
        }, x -> Check.script(x, "insert 0 0 a; all; drop 1 0; lose 1 0; sweep 0"));
        fault("drop 2 99; xx;", 11, 1);
        fault("sweep 9; sync 0 0; drop 0 0", 27, 1);
    }

    private static MovingList three() {
        MovingList x = new MovingList();
        Check.write(x, 0, "abc");
        x.insert(1, 0, 3);
        return x;
    }

    private void same(String deed, Check.Call call) {
        MovingList x = three();
        MovingList y = three();
        c.due(deed, 1, Check.script(x, deed));
        call.on(y);
        c.dueText("as its call " + deed, Check.state(y), Check.state(x));
    }

    /** "each as its call". */
    private void eachDeedAsItsCall() {
        same("insert 0 3 z;", x -> x.insert(0, 3, 25));
        same("insert 1 0 a;", x -> x.insert(1, 0, 0));
        same("move 0 2 1;", x -> x.move(0, 2, 1));
        same("move 0 0 2;", x -> x.move(0, 0, 2));
        same("drop 0 2;", x -> x.drop(0, 2));
        same("change 0 1 q;", x -> x.change(0, 1, 16));
        same("deliver 1 2;", x -> x.deliver(1, 2));
        same("deliver 2 0;", x -> x.deliver(2, 0));
        same("lose 2 3;", x -> x.lose(2, 3));
        same("twice 1 2;", x -> x.twice(1, 2));
        same("sync 0 1;", x -> x.sync(0, 1));
        same("sync 1 0;", x -> x.sync(1, 0));
        same("tell 2 0;", x -> x.tell(2, 0) ? 1 : 0);
        same("sweep 1;", x -> x.sweep(1));
    }

    private void stops(String deed) {
        c.refused(deed, 0, ScriptEdgeTest::three, x -> Check.script(x, deed + " insert 2 0 a;"));
        MovingList x = three();
        c.due("one ahead of " + deed, 1, Check.script(x, "insert 2 0 a;" + deed + "insert 2 0 b;"));
        c.due("the one behind it is not done", 1, x.length(2));
    }

    /** "till one is refused (NONE, false)": it is not counted, and none behind it is done. */
    private void eachDeedRefused() {
        String[] deeds = {"insert 3 0 a;", "insert 0 4 a;", "move 3 0 0;", "move 0 3 0;",
            "move 0 0 3;", "drop 3 0;", "drop 0 3;", "change 3 0 a;", "change 0 3 a;",
            "deliver 3 0;", "deliver 1 9;", "lose 3 0;", "lose 1 9;", "twice 3 0;", "twice 1 9;",
            "sync 3 0;", "sync 0 3;", "sync 1 1;", "tell 3 0;", "tell 0 3;", "tell 0 1;",
            "sweep 3;"};
        for (String deed : deeds) {
            stops(deed);
        }
    }

    /** An answer 0 is no refusal. */
    private void notRefusedThoughNothingWasDone() {
        MovingList x = three();
        c.due("held", 2, Check.script(x, "deliver 1 2; sweep 0;"));
        c.due("nothing new", 2, Check.script(x, "sync 2 0; sweep 0;"));
        c.due("nothing waits", 3, Check.script(x, "all; all; sweep 0;"));
        c.due("all is done", 0, x.all(7));
    }

    /** "all (DELIVERED: of each SITE, upwards, the first WAITING one, till none waits there)". */
    private void allDelivers() {
        MovingList x = new MovingList();
        c.due("none waits", 1, Check.script(x, "all;"));
        x = three();
        x.deliver(2, 2);
        x.twice(1, 0);
        c.due("all", 1, Check.script(x, "all;"));
        c.due("none waits", 0, x.all(2));
        c.due("none held", 0, x.all(3));
        c.due("none lost", 0, x.all(4));
        c.due("all done", 0, x.all(7));
        MovingList y = three();
        y.lose(1, 0);
        y.lose(2, 1);
        c.due("all", 1, Check.script(y, "all;"));
        c.dueText("held for what was lost, as they came", "2 3", Check.held(y, 1));
        c.dueText("held", "3", Check.held(y, 2));
        c.dueText("done at 0", "3 1 0", Check.vector(y, 0));
        c.dueText("done at 2", "1 1 0", Check.vector(y, 2));
        MovingList z = new MovingList();
        z.sites(5);
        for (int s = 0; s < 3; s++) {
            for (int k = 0; k < 30; k++) {
                z.insert(s, 0, 0);
            }
        }
        c.due("60 wait at each", 300, z.all(2));
        c.due("all", 1, Check.script(z, "all;"));
        c.due("none waits", 0, z.all(2));
        c.due("done at the last site", 60, z.length(4));
    }

    // ---- images

    /** "IMAGES 0 and 1". */
    private void imagesZeroAndOne() {
        for (int i : new int[] {-1, 2, 3, -2, LOW, HIGH}) {
            c.refused("image(" + i + ")", 0, ScriptEdgeTest::three, x -> x.image(i) ? 1 : 0);
            MovingList x = three();
            x.image(0);
            x.image(1);
            x.drop(0, 0);
            String was = Check.state(x);
            c.due("back(" + i + ")", false, x.back(i));
            c.dueText("changes nothing", was, Check.state(x));
        }
        for (int i = 0; i < 2; i++) {
            MovingList x = three();
            c.due("image(" + i + ")", true, x.image(i));
            c.dueText("changes nothing itself", Check.state(three()), Check.state(x));
            x.drop(0, 0);
            c.due("back(" + i + ")", true, x.back(i));
            c.dueText("as it was", Check.state(three()), Check.state(x));
        }
    }

    /** "false: others, none was made". */
    private void backOnlyIfOneWasMade() {
        for (int i = 0; i < 2; i++) {
            int image = i;
            c.refused("back(" + i + ")", 0, ScriptEdgeTest::three, x -> x.back(image) ? 1 : 0);
            MovingList x = three();
            x.image(1 - i);
            x.drop(0, 0);
            c.due("the other one was made", false, x.back(i));
            c.due("nothing was taken back", 2, x.length(0));
            x.image(2);
            x.image(-1);
            c.due("nor by one that was refused", false, x.back(i));
        }
    }

    /** A group in which all is something. */
    private static MovingList rich() {
        MovingList x = new MovingList();
        Check.script(x, "insert 0 0 a; insert 0 1 b; insert 0 2 c; sync 0 1; sync 0 2; drop 0 2;"
                + "move 0 1 0; sync 0 1; sync 0 2; tell 1 0; tell 2 0; sweep 0; lose 1 0;"
                + "insert 1 1 x; move 2 0 1; change 2 0 y; insert 2 0 z; deliver 0 2; twice 1 3;");
        return x;
    }

    /** "All of the group is as in an IMAGE": lists, post, clocks, what is known, swept, lost. */
    private void imageOfAllOfTheGroup() {
        MovingList x = rich();
        c.dueText("two places at 0 went", "0 5 1", Check.places(x, 0));
        c.due("held at 0", 1, x.post(0, 1, -1));
        c.due("lost", 1, x.all(4));
        x.image(1);
        Check.script(x, "all; insert 0 0 q; sync 0 1; sync 0 2; drop 1 0; move 2 0 1; lose 0 0;"
                + "sync 2 1; sync 1 0; tell 1 0; sweep 0;");
        x.sync(0, 2);
        x.tell(2, 0);
        x.sweep(0);
        c.due("other ops", true, x.all(1) > rich().all(1));
        c.due("back", true, x.back(1));
        c.dueText("all of it", Check.state(rich()), Check.state(x));
    }

    /** It goes on from an image as if nothing had been between. */
    private void imageGoesOn() {
        String more = "all; insert 0 1 k; change 1 0 m; drop 2 1; all; tell 1 0; tell 2 0; sweep 0;";
        MovingList x = rich();
        x.image(0);
        Check.script(x, "all; insert 0 0 q; sync 0 1; drop 1 0; move 1 0 1; insert 2 0 r; all;");
        x.back(0);
        c.due("eight deeds", 8, Check.script(x, more));
        MovingList y = rich();
        Check.script(y, more);
        c.dueText("what comes of it", Check.state(y), Check.state(x));
    }

    private static void doOne(MovingList x) {
        Check.script(x, "insert 0 0 a; insert 0 1 b; insert 0 2 c; insert 0 3 d; sync 0 1;"
                + "insert 1 4 e; sync 1 0; drop 1 2; insert 2 0 f; move 2 0 0; all;");
    }

    private static void doOther(MovingList x) {
        Check.script(x, "insert 1 0 q; insert 1 1 r; move 1 1 0; drop 1 0; insert 2 0 s;"
                + "insert 2 0 t; sync 2 0; insert 0 0 u; drop 0 1; change 0 0 v; move 0 1 0; all;");
    }

    /** Ops of two images bear the same names, and are others. */
    private void imageOfOpsOfLikeNames() {
        MovingList one = new MovingList();
        doOne(one);
        MovingList other = new MovingList();
        doOther(other);
        String[] groups = {Check.group(other), Check.group(one)};
        c.due("they are unlike", false, groups[0].equals(groups[1]));
        for (int i = 0; i < 2; i++) {
            MovingList x = new MovingList();
            x.image(0);
            doOne(x);
            x.image(1);
            c.due("back to nothing", true, x.back(0));
            doOther(x);
            x.image(0);
            c.due("back to one of them", true, x.back(1 - i));
            c.due("back to the other", true, x.back(i));
            c.dueText("its own ops", groups[i], Check.group(x));
        }
    }

    /** An image stays as it is made, till it is made anew; the other one is not touched. */
    private void imageMadeAnew() {
        MovingList x = new MovingList();
        x.image(0);
        x.insert(0, 0, 0);
        x.image(1);
        x.insert(0, 1, 1);
        c.due("back to 1", true, x.back(1));
        c.due("one op", 1, x.all(1));
        x.insert(0, 1, 2);
        x.drop(0, 0);
        c.due("back to 1 again", true, x.back(1));
        c.due("one op", 1, x.all(1));
        c.due("back to 0", true, x.back(0));
        c.due("none", 0, x.all(1));
        c.due("and forth to 1", true, x.back(1));
        c.due("one op", 1, x.all(1));
        x.insert(0, 1, 3);
        x.image(0);
        c.due("back to 1", true, x.back(1));
        c.due("one op", 1, x.all(1));
        c.due("back to the new 0", true, x.back(0));
        c.dueText("two ops", "1 2", Check.names(x, 0));
    }

    /** The tape is not of the group. */
    private void imageAndTape() {
        MovingList x = fed(1);
        x.image(0);
        Check.feed(x, "sweep 1;");
        x.insert(0, 0, 0);
        x.back(0);
        c.due("the tape stays", 40, x.all(5));
        c.due("with all that came", 2, x.script(40));
        x.back(0);
        c.due("nor comes again", 0, x.all(5));
    }

    /** sites(): "no IMAGES; the TAPE stays"; false: all stays. */
    private void sitesTakesImages() {
        for (int n = 2; n <= 5; n++) {
            MovingList x = fed(1);
            x.image(0);
            x.image(1);
            c.due("refused", false, x.sites(1));
            c.due("they stay", true, x.back(0) && x.back(1));
            c.due("sites", true, x.sites(n));
            c.due("no image 0", false, x.back(0));
            c.due("no image 1", false, x.back(1));
            c.due("the tape stays", 20, x.all(5));
            c.due("with what was on it", 1, x.script(20));
            c.due("made anew", true, x.image(1));
            x.insert(n - 1, 0, 7);
            c.due("back", true, x.back(1));
            c.due("nothing made", 0, x.all(1));
            c.due("sites", n, x.all(0));
            c.due("the other one was not made", false, x.back(0));
        }
    }
}
