import java.io.IOException;
import java.io.UncheckedIOException;
import java.nio.file.Path;
import support.Checks;
import support.Document;

/** What the parts of SentencesTest have in common: to name a sentence, to look at answers, and lines to begin with. */
abstract class Sentences {
    static final int TERMS = Document.TERMS;
    static final int LEAST = Integer.MIN_VALUE;
    static final int MOST = Integer.MAX_VALUE;
    static final int KIND = 0, HAND = 1, LENGTH = 2, STRENGTH = 3, WEIGHT = 4, TORQUE = 5, DAMAGE = 6;
    static final int STATE = 7, BEARS = 8, BALANCED = 9;

    static final Checks CHECKS = new Checks();
    static final Document DOCUMENT = document();

    interface Asked {
        long with(int value);
    }

    private static Document document() {
        try {
            return new Document(Path.of("../shared/DOC.md"));
        } catch (IOException e) {
            throw new UncheckedIOException(e);
        }
    }

    /** The looks that follow are the test of this sentence, which the document must hold. */
    static void says(int promise, String words) {
        CHECKS.begin(DOCUMENT.name(promise, words));
    }

    static void due(String what, long got, long want) {
        CHECKS.due(what, got, want);
    }

    static void index(String what, Checks.Call call) {
        CHECKS.dueThrow(what, Checks.INDEX, call);
    }

    static void argument(String what, Checks.Call call) {
        CHECKS.dueThrow(what, Checks.ARGUMENT, call);
    }

    static void state(String what, Checks.Call call) {
        CHECKS.dueThrow(what, Checks.STATE, call);
    }

    /** The call answers with the least and the most, and throws with all that is less or more. */
    static void edges(int least, int most, Class<? extends Throwable> thrown, Asked call) {
        CHECKS.dueNoThrow("the least, " + least, () -> call.with(least));
        CHECKS.dueNoThrow("the most, " + most, () -> call.with(most));
        int[] outside = {least - 1, most + 1, -1, LEAST, LEAST + 1, MOST - 1, MOST, least + (1 << 8), most + (1 << 16),
            least - (1 << 16), most + (1 << 24)};
        for (int value : outside) {
            if (value < least || value > most) {
                CHECKS.dueThrow("with " + value, thrown, () -> call.with(value));
            }
        }
    }

    static void argumentEdges(int least, int most, Asked call) {
        edges(least, most, Checks.ARGUMENT, call);
    }

    static void indexEdges(int least, int most, Asked call) {
        edges(least, most, Checks.INDEX, call);
    }

    static long bit(boolean answer) {
        return answer ? 1 : 0;
    }

    static long tell(Ropeloft x, int fibre, int strength, int length) {
        x.fibre(fibre, strength, length);
        return 0;
    }

    /** A yarn of the best twist, 12, which bears 80. */
    static int yarn(Ropeloft x, int hand, int length) {
        return x.spin(0, 12, hand, length);
    }

    /** A yarn that bears just so much. */
    static int yarnThatBears(Ropeloft x, int strength) {
        for (int fibre = 1; fibre <= 1000; fibre++) {
            if (fibre * 100 / 105 == strength) {
                x.fibre(3, fibre, 100);
                return x.spin(3, 12, Ropeloft.S, 10);
            }
        }
        throw new IllegalArgumentException("no yarn bears " + strength);
    }

    /** A strand of three yarns of twist 12: with the twists 10 to 14 it is balanced. */
    static int strand(Ropeloft x, int hand, int length, int twist) {
        int yarnHand = 1 - hand;
        return x.lay(yarn(x, yarnHand, length), yarn(x, yarnHand, length), yarn(x, yarnHand, length), twist);
    }

    /** A strand of the hand S, of weight 3, whose torque is just so much, 12 at most: 6 is balanced, 7 not. */
    static int strandOfTorque(Ropeloft x, int length, int torque) {
        int one = x.spin(0, 12 + torque, Ropeloft.Z, length);
        return x.lay(one, yarn(x, Ropeloft.Z, length), yarn(x, Ropeloft.Z, length), 12);
    }

    /** Of nine yarns and three strands; with the twists 14 and 4 it is balanced. */
    static int rope(Ropeloft x, int hand, int length, int strandTwist, int twist) {
        int strandHand = 1 - hand;
        int one = strand(x, strandHand, length, strandTwist);
        int two = strand(x, strandHand, length, strandTwist);
        return x.lay(one, two, strand(x, strandHand, length, strandTwist), twist);
    }

    /** Of 39 lines, itself the 40th; it is balanced. */
    static int cable(Ropeloft x, int hand, int length) {
        int ropeHand = 1 - hand;
        int one = rope(x, ropeHand, length, 14, 4);
        int two = rope(x, ropeHand, length, 14, 4);
        return x.lay(one, two, rope(x, ropeHand, length, 14, 4), 4);
    }

    /** Spins yarns of length 7, until there are so many lines; at least one must be missing. */
    static void fill(Ropeloft x, int lines) {
        int last;
        do {
            last = x.spin(0, 12, Ropeloft.Z, 7);
        } while (last < lines - 1);
    }

    static Ropeloft withYarns(int lines) {
        Ropeloft x = new Ropeloft();
        fill(x, lines);
        return x;
    }

    static int broken(Ropeloft x) {
        int line = yarn(x, Ropeloft.S, 10);
        x.load(line, 81);
        return line;
    }

    static int retired(Ropeloft x) {
        int line = yarn(x, Ropeloft.S, 10);
        x.load(line, 80);
        x.load(line, 72);
        x.load(line, 64);
        return line;
    }

    static void line(String what, Ropeloft x, int line, int... told) {
        for (int i = 0; i < told.length; i++) {
            due(what + ", what " + i, x.lineOf(line, i), told[i]);
        }
    }
}
