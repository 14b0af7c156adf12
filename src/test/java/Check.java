import java.util.NoSuchElementException;

/** Counts answers that are not as due, and prints them. */
final class Check {
    private int asked;
    private int wrong;

    void due(String what, long want, long got) {
        asked++;
        if (want != got) {
            wrong++;
            System.out.println(what + " answered " + got + ", due is " + want);
        }
    }

    void due(String what, boolean want, boolean got) {
        due(what, want ? 1 : 0, got ? 1 : 0);
    }

    void dueText(String what, String want, String got) {
        asked++;
        if (!want.equals(got)) {
            wrong++;
            System.out.println(what + " answered " + got + ", due is " + want);
        }
    }

    void dueNoElement(String what, MovingList x, int site, int i, int of) {
        boolean thrown = false;
        try {
            x.at(site, i, of);
        } catch (NoSuchElementException e) {
            thrown = true;
        }
        due(what + " throws", true, thrown);
    }

    /** The letters that a site shows, as a text. */
    static String letters(MovingList x, int site) {
        StringBuilder text = new StringBuilder();
        for (int i = 0; i < x.length(site); i++) {
            text.append((char) ('a' + x.at(site, i, 1)));
        }
        return text.toString();
    }

    /** The names that a site shows, parted by blanks. */
    static String names(MovingList x, int site) {
        StringBuilder text = new StringBuilder();
        for (int i = 0; i < x.length(site); i++) {
            text.append(i == 0 ? "" : " ").append(x.at(site, i, 0));
        }
        return text.toString();
    }

    /** The places that a site has in order, parted by blanks. */
    static String places(MovingList x, int site) {
        StringBuilder text = new StringBuilder();
        for (int i = 0; x.place(site, i) != MovingList.NONE; i++) {
            text.append(i == 0 ? "" : " ").append(x.place(site, i));
        }
        return text.toString();
    }

    /** Puts the letters of a text into an empty list of a site. */
    static void write(MovingList x, int site, String text) {
        for (int i = 0; i < text.length(); i++) {
            x.insert(site, i, text.charAt(i) - 'a');
        }
    }

    /** Lets all sites do all ops. */
    static void syncAll(MovingList x) {
        int n = x.all(0);
        for (int s = 1; s < n; s++) {
            x.sync(s, 0);
        }
        for (int s = 1; s < n; s++) {
            x.sync(0, s);
        }
    }

    /** Lets a site know of all others. */
    static void tellAll(MovingList x, int to) {
        for (int s = 0; s < x.all(0); s++) {
            x.tell(s, to);
        }
    }

    /** Feeds a text, filled up with blanks to whole rows of 20 bytes: the last answer of feed. */
    static int feed(MovingList x, String text) {
        byte[] bytes = new byte[(text.length() + 19) / 20 * 20];
        for (int i = 0; i < bytes.length; i++) {
            bytes[i] = (byte) (i < text.length() ? text.charAt(i) : ' ');
        }
        int answer = x.all(5);
        for (int i = 0; i < bytes.length; i += 20) {
            answer = x.feed(number(bytes, i), number(bytes, i + 4), number(bytes, i + 8),
                    number(bytes, i + 12), number(bytes, i + 16));
        }
        return answer;
    }

    static int number(byte[] bytes, int i) {
        return (bytes[i] & 255) << 24 | (bytes[i + 1] & 255) << 16 | (bytes[i + 2] & 255) << 8
                | bytes[i + 3] & 255;
    }

    /** Feeds a text to the empty tape and does it as a script. */
    static int script(MovingList x, String text) {
        feed(x, text);
        return x.script(text.length());
    }

    void end() {
        System.out.println(asked + " answers, " + wrong + " not as due");
        if (wrong != 0 || asked == 0) {
            System.exit(1);
        }
    }
}
