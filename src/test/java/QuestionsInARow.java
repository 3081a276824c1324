import java.util.Arrays;
import java.util.NoSuchElementException;

/**
 * What is asked of a net doesn't hang on what was asked of another net ahead of it: every question behind every other
 * one, on one object whose net is put back in between, is answered as a new object answers it.
 */
public final class QuestionsInARow extends Sentences {
    private static final int THROWN = MIN;
    /** What each kind of question is asked about. */
    private static final int[][] KINDS = {
        {0, 0}, {0, 1}, {0, 2}, {0, 3}, {0, 4}, {0, 5}, {0, 6}, {1, 0}, {1, 3}, {2, 0}, {2, 2}, {3, 0}, {4, 0}, {5, 0},
        {5, 2}, {6, 0}, {6, 1}, {6, 2}, {7, 0}, {7, 3}, {8, 0}, {9, 0}, {10, 0}, {10, 3}, {11, 0}, {11, 2}, {12, 0},
        {13, 0}, {14, 0}, {14, 1}, {14, 2}, {15, 0}, {15, 5}, {16, 0}, {17, 0}, {18, 1}, {18, 3}, {19, 0}, {19, 1},
        {20, 0}, {20, 1},
    };

    /** Each point's ties to those ahead of it. */
    private static final int[][] NETS = {
        {}, {0, 0, 0, 0}, {0, 1, 1, 1}, {0, 0, 2, 6}, {0, 1, 3, 7}, {0, 1, 3, 7, 6}, {0, 1, 3, 7, 14}, {0, 1, 1, 1, 14},
        {0, 0, 0, 0, 0}, {0, 1, 2, 4, 9, 31}, {0, 0, 0, 7, 0, 0, 56, 0}, {0, 1, 2, 4, 8, 16, 32, 64},
        {0, 1, 3, 0, 8, 24, 0, 64, 192, 0, 512, 1536, 0, 4096}, {0, 1, 1, 1, 3, 5, 9, 6, 10, 12, 48, 80, 96, 1024},
    };

    public static void main(String[] args) {
        QuestionsInARow all = new QuestionsInARow();
        all.says("questions: of the NET as it is now, whatever was asked of another one", all::afterAnother);
        all.says("questions: they change nothing", all::leaveAll);
        all.says("questions: of a NET that POINTS went from as of one that never had them", all::afterGoing);
        all.finish();
    }

    private void afterAnother() {
        for (int[] ahead : NETS) {
            for (int[] now : NETS) {
                int[] answers = freshAnswers(now);
                for (int first = 0; first < KINDS.length; first++) {
                    askBehind(first, ahead, now, answers);
                }
            }
        }
    }

    /** Some 200 calls: fewer than an object is for. */
    private void askBehind(int first, int[] ahead, int[] now, int[] answers) {
        MeetingNets x = coming(ahead);
        x.image(0);
        while (x.now(0) > 0) {
            x.go(0);
        }
        for (int set : now) {
            x.come(set);
        }
        x.image(1);
        for (int k = 0; k < KINDS.length; k++) {
            x.restore(0);
            ask(x, first);
            x.restore(1);
            int got = ask(x, k);
            if (got != answers[k]) {
                String behind = " behind " + told(first) + " of " + Arrays.toString(ahead);
                due(told(k) + " of " + Arrays.toString(now) + behind, got, answers[k]);
            }
        }
    }

    private void leaveAll() {
        for (int[] net : NETS) {
            for (int k = 0; k < KINDS.length; k++) {
                int kind = k;
                MeetingNets x = coming(net);
                x.feed(1, 2, 3, 4, 5);
                dueUnchanged(told(k), x, () -> ask(x, kind));
            }
        }
    }

    /** A point behind all others that is tied to them leaves nothing when it goes, the first one neither. */
    private void afterGoing() {
        for (int[] net : NETS) {
            if (net.length == 0) {
                continue;
            }
            int[] answers = freshAnswers(net);
            for (int k = 0; k < KINDS.length && net.length < 14; k++) {
                MeetingNets x = coming(net);
                x.come((1 << net.length) - 1);
                ask(x, k);
                x.go(net.length);
                due(told(k) + " when the last one went", ask(x, k), answers[k]);
            }
            MeetingNets x = coming(net);
            x.go(net.length - 1);
            for (int a = 0; a < net.length; a++) {
                for (int b = 0; b < net.length; b++) {
                    due("odd() of one that went", x.odd(net.length - 1, a, b), NONE);
                }
            }
        }
    }

    private static int[] freshAnswers(int[] net) {
        int[] answers = new int[KINDS.length];
        for (int k = 0; k < answers.length; k++) {
            answers[k] = ask(coming(net), k);
        }
        return answers;
    }

    private static String told(int k) {
        return "question " + KINDS[k][0] + " of " + KINDS[k][1];
    }

    private static int ask(MeetingNets x, int k) {
        try {
            return KINDS[k][0] < 10 ? askShape(x, KINDS[k][0], KINDS[k][1]) : askProof(x, KINDS[k][0], KINDS[k][1]);
        } catch (NoSuchElementException e) {
            return THROWN;
        }
    }

    private static int askShape(MeetingNets x, int kind, int about) {
        switch (kind) {
            case 0: return x.now(about);
            case 1: return x.near(about);
            case 2: return x.line(about, 1);
            case 3: return x.covers();
            case 4: return x.cliques();
            case 5: return x.clique(about);
            case 6: return x.root(about);
            case 7: return x.rootLine(about, 1);
            case 8: return x.piece();
            default: return x.pieces();
        }
    }

    private static int askProof(MeetingNets x, int kind, int about) {
        switch (kind) {
            case 10: return x.blamed(about);
            case 11: return x.odd(0, 1, about);
            case 12: return x.claw();
            case 13: return x.depth();
            case 14: return x.mending(about);
            case 15: return x.may(about);
            case 16: return x.mays();
            case 17: return x.colours();
            case 18: return x.colourAt(about);
            case 19: return x.apart(about);
            default: return x.clump(about);
        }
    }
}
