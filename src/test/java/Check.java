import java.util.NoSuchElementException;
import java.util.function.IntUnaryOperator;

/** Counts answers that are not as due, and prints them. */
final class Check {
    private int asked;
    private int wrong;

    /** A call; of one that answers true or false 1 or 0. */
    interface Call {
        int on(MovingList x);
    }

    /** Makes an object, the same one each time. */
    interface Scene {
        MovingList make();
    }

    void due(String what, long want, long got) {
        asked++;
        if (want != got) {
            wrong++;
            System.out.println(what + " answered " + got + ", due is " + want);
        }
    }

    void due(String what, boolean want, boolean got) {
        due(what, want ? 1 : 0, got ? 1 : 0);
    }

    void dueText(String what, String want, String got) {
        asked++;
        if (!want.equals(got)) {
            wrong++;
            System.out.println(what + " answered " + got + ", due is " + want);
        }
    }

    void dueNoElement(String what, MovingList x, int site, int i, int of) {
        boolean thrown = false;
        try {
            x.at(site, i, of);
        } catch (NoSuchElementException e) {
            thrown = true;
        }
        due(what + " throws", true, thrown);
    }

    /** A call is refused: it answers as is due, and all is as without it. */
    void refused(String what, int want, Scene scene, Call call) {
        MovingList x = scene.make();
        due(what, want, call.on(x));
        dueText(what + " changes nothing", state(scene.make()), state(x));
    }

    /** What at() answers, NONE where it throws as it should. */
    static int at(MovingList x, int site, int i, int what) {
        try {
            return x.at(site, i, what);
        } catch (NoSuchElementException e) {
            return MovingList.NONE;
        }
    }

    /** Numbers parted by blanks. */
    static String join(int n, IntUnaryOperator number) {
        StringBuilder text = new StringBuilder();
        for (int i = 0; i < n; i++) {
            text.append(i == 0 ? "" : " ").append(number.applyAsInt(i));
        }
        return text.toString();
    }

    /** All that can be asked of an object, but for its images and what stands on its tape. */
    static String state(MovingList x) {
        return "tape " + x.all(5) + " " + group(x);
    }

    /** All that can be asked of the group: what an image keeps. */
    static String group(MovingList x) {
        int n = x.all(0);
        StringBuilder text = new StringBuilder("all " + n + " ");
        text.append(join(7, k -> k == 4 ? 0 : x.all(k + 1)));
        for (int s = 0; s < n; s++) {
            int site = s;
            int length = x.length(s);
            for (int what = 0; what < 4; what++) {
                int of = what;
                text.append(what == 0 ? "\nat " : " / ").append(join(length,
                        i -> x.at(site, i, of)));
            }
            text.append(" places ").append(places(x, s));
            text.append(" counts ").append(join(8, what -> x.count(site, what)));
            text.append(" waiting ").append(waiting(x, s)).append(" held ").append(held(x, s));
            text.append(" vector ").append(join(n, of -> x.vector(site, of)));
            text.append(" floor ").append(join(n, of -> x.floor(site, of)));
            text.append(" knows ").append(join(n * n, k -> x.knows(site, k / n, k % n)));
            int made = x.count(s, 5);
            for (int k = 1; k <= made; k++) {
                int name = 100 * s + k;
                text.append(" op ").append(op(x, name)).append(" needs ")
                        .append(join(n, of -> x.needs(name, of)));
            }
        }
        text.append("\nsettled ").append(settled(x)).append(" letters ")
                .append(join(x.settled(-1, 1), i -> x.settled(i, 1)));
        return text.toString();
    }

    /** The letters that a site shows, as a text. */
    static String letters(MovingList x, int site) {
        StringBuilder text = new StringBuilder();
        int n = x.length(site);
        for (int i = 0; i < n; i++) {
            text.append((char) ('a' + x.at(site, i, 1)));
        }
        return text.toString();
    }

    static String names(MovingList x, int site) {
        return join(x.length(site), i -> x.at(site, i, 0));
    }

    /** The places that a site has in order. */
    static String places(MovingList x, int site) {
        StringBuilder text = new StringBuilder();
        int place = x.place(site, 0);
        for (int i = 1; place != MovingList.NONE; i++) {
            text.append(i == 1 ? "" : " ").append(place);
            place = x.place(site, i);
        }
        return text.toString();
    }

    static String waiting(MovingList x, int site) {
        return join(x.post(site, 0, -1), i -> x.post(site, 0, i));
    }

    static String held(MovingList x, int site) {
        return join(x.post(site, 1, -1), i -> x.post(site, 1, i));
    }

    static String vector(MovingList x, int site) {
        return join(x.all(0), of -> x.vector(site, of));
    }

    static String floor(MovingList x, int site) {
        return join(x.all(0), of -> x.floor(site, of));
    }

    static String known(MovingList x, int site, int of) {
        return join(x.all(0), about -> x.knows(site, of, about));
    }

    static String needs(MovingList x, int name) {
        return join(x.all(0), site -> x.needs(name, site));
    }

    /** Of an op: which, its time, its element, the place it was told behind, its letter. */
    static String op(MovingList x, int name) {
        return join(5, what -> x.op(name, what));
    }

    static String settled(MovingList x) {
        return join(x.settled(-1, 0), i -> x.settled(i, 0));
    }

    static String found(MovingList x, int name) {
        return join(x.found(name, -1), i -> x.found(name, i));
    }

    static String rivals(MovingList x, int name) {
        return join(x.rivals(name, -1), i -> x.rivals(name, i));
    }

    /** Puts the letters of a text into an empty list of a site. */
    static void write(MovingList x, int site, String text) {
        for (int i = 0; i < text.length(); i++) {
            x.insert(site, i, text.charAt(i) - 'a');
        }
    }

    /** Lets all sites do all ops. */
    static void syncAll(MovingList x) {
        int n = x.all(0);
        for (int s = 1; s < n; s++) {
            x.sync(s, 0);
        }
        for (int s = 1; s < n; s++) {
            x.sync(0, s);
        }
    }

    /** Lets a site know of all others. */
    static void tellAll(MovingList x, int to) {
        int n = x.all(0);
        for (int s = 0; s < n; s++) {
            x.tell(s, to);
        }
    }

    /** Feeds a text, filled up with blanks to whole rows of 20 bytes: the last answer of feed. */
    static int feed(MovingList x, String text) {
        byte[] bytes = new byte[(text.length() + 19) / 20 * 20];
        for (int i = 0; i < bytes.length; i++) {
            bytes[i] = (byte) (i < text.length() ? text.charAt(i) : ' ');
        }
        int answer = x.all(5);
        for (int i = 0; i < bytes.length; i += 20) {
            answer = x.feed(number(bytes, i), number(bytes, i + 4), number(bytes, i + 8),
                    number(bytes, i + 12), number(bytes, i + 16));
        }
        return answer;
    }

    static int number(byte[] bytes, int i) {
        return (bytes[i] & 255) << 24 | (bytes[i + 1] & 255) << 16 | (bytes[i + 2] & 255) << 8
                | bytes[i + 3] & 255;
    }

    /** Feeds a text to the empty tape and does it as a script. */
    static int script(MovingList x, String text) {
        feed(x, text);
        return x.script(text.length());
    }

    void end() {
        System.out.println(asked + " answers, " + wrong + " not as due");
        if (wrong != 0 || asked == 0) {
            System.exit(1);
        }
    }
}
