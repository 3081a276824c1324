import java.util.HashSet;
import java.util.NoSuchElementException;
import java.util.Set;

/** Sentences of the document that name a boundary case, each with a check of its own; and the nets for the checks. */
abstract class Sentences {
    static final int NONE = MeetingNets.NONE;
    static final int MAX = Integer.MAX_VALUE;
    static final int MIN = Integer.MIN_VALUE;
    static final String CLAW = "point a;point b;point c;point d;line a b;line a c;line a d;";

    private final Set<String> told = new HashSet<>();
    private String sentence;
    private int wrongHere;
    private int broken;

    final void says(String words, Runnable check) {
        sentence = words;
        wrongHere = told.add(words) ? 0 : 1;
        try {
            check.run();
        } catch (RuntimeException e) {
            wrongHere++;
            System.out.println("  threw " + e);
        }
        if (wrongHere > 0) {
            broken++;
            System.out.println("broken: " + words);
        }
    }

    final void finish() {
        System.out.println(told.size() + " sentences on boundary cases, " + broken + " broken");
        if (broken > 0) {
            System.exit(1);
        }
    }

    // ---- answers that are due

    final void due(String call, int got, int want) {
        if (got != want) {
            wrongHere++;
            System.out.println("  " + call + " answered " + got + ", due is " + want + " (" + sentence + ")");
        }
    }

    final void due(String call, boolean got, boolean want) {
        due(call, got ? 1 : 0, want ? 1 : 0);
    }

    final void throwsNoSuch(String call, Runnable made) {
        boolean thrown = false;
        try {
            made.run();
        } catch (NoSuchElementException e) {
            thrown = e.getClass() == NoSuchElementException.class;
        }
        due(call + " throws", thrown, true);
    }

    /** The points of a net, by the ties that each has to those ahead of it: told as coming() takes them. */
    final void dueNet(String where, MeetingNets x, int... sets) {
        due(where + ": now(0)", x.now(0), sets.length);
        for (int p = 0; p < sets.length && p < x.now(0); p++) {
            due(where + ": near(" + p + ") ahead", x.near(p) & (1 << p) - 1, sets[p]);
            due(where + ": near(" + p + ") behind", x.near(p) >>> p, behind(sets, p));
        }
    }

    private static int behind(int[] sets, int p) {
        int set = 0;
        for (int q = p + 1; q < sets.length; q++) {
            set |= (sets[q] >> p & 1) << q - p;
        }
        return set;
    }

    final void dueUnchanged(String call, MeetingNets x, Runnable made) {
        String before = stateOf(x);
        made.run();
        due(call + " leaves all as it was", stateOf(x).equals(before), true);
    }

    private static String stateOf(MeetingNets x) {
        StringBuilder b = new StringBuilder();
        b.append(x.now(7)).append(' ').append(x.now(8)).append(' ').append(x.fault());
        for (int p = 0; p < x.now(0); p++) {
            b.append(' ').append(x.near(p));
        }
        return b.toString();
    }

    // ---- nets and texts

    /** Each point comes with its ties to those ahead of it. */
    static MeetingNets coming(int... sets) {
        MeetingNets x = new MeetingNets();
        for (int set : sets) {
            x.come(set);
        }
        return x;
    }

    /** Points each two of which are tied. */
    static MeetingNets full(int points) {
        MeetingNets x = new MeetingNets();
        for (int p = 0; p < points; p++) {
            x.come((1 << p) - 1);
        }
        return x;
    }

    static MeetingNets untied(int points) {
        return coming(new int[points]);
    }

    /** Point 0 is tied to all others, and these to none but it. */
    static MeetingNets star(int points) {
        MeetingNets x = untied(1);
        for (int p = 1; p < points; p++) {
            x.come(1);
        }
        return x;
    }

    static MeetingNets path(int points) {
        MeetingNets x = new MeetingNets();
        for (int p = 0; p < points; p++) {
            x.come(p == 0 ? 0 : 1 << p - 1);
        }
        return x;
    }

    static MeetingNets ring(int points) {
        MeetingNets x = path(points);
        x.tie(0, points - 1);
        return x;
    }

    static int set(int... points) {
        int set = 0;
        for (int p : points) {
            set |= 1 << p;
        }
        return set;
    }

    static String blanks(int many) {
        return " ".repeat(many);
    }

    /** A text with blanks behind it, so many bytes long. */
    static String longer(String text, int length) {
        return text + blanks(length - text.length());
    }

    static String pointRows(int points) {
        StringBuilder b = new StringBuilder();
        for (int p = 0; p < points; p++) {
            b.append("point ").append((char) ('a' + p)).append(';');
        }
        return b.toString();
    }

    /** The tape is a text alone. */
    static void put(MeetingNets x, String text) {
        x.end(0);
        for (int i = 0; i < text.length(); i += 20) {
            int[] five = new int[5];
            for (int k = 0; k < 20; k++) {
                five[k / 4] = five[k / 4] << 8 | (i + k < text.length() ? text.charAt(i + k) & 255 : 0);
            }
            x.feed(five[0], five[1], five[2], five[3], five[4]);
        }
        x.end(text.length());
    }

    static MeetingNets of(String text) {
        MeetingNets x = new MeetingNets();
        put(x, text);
        x.net();
        return x;
    }

    /** What net() and fault() answer to a text. */
    final void text(String text, int net, int fault) {
        MeetingNets x = new MeetingNets();
        put(x, text);
        due("net() of <" + text + ">", x.net(), net);
        due("fault() of <" + text + ">", x.fault(), fault);
    }
}
