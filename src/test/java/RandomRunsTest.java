import java.util.Random;
import support.Checks;
import support.SlowLoft;

/** Runs of 512 calls, right and wrong ones, each answer and each exception compared with those of SlowLoft. */
public final class RandomRunsTest {
    private static final Checks CHECKS = new Checks();
    private static final int CALLS = 512;
    private static final int[] FAR = {Integer.MIN_VALUE, Integer.MIN_VALUE + 1, Integer.MAX_VALUE - 1,
        Integer.MAX_VALUE, -1, 10001, 1000001, 60, 1 << 30};

    private final Random random;
    private final Ropeloft loft = new Ropeloft();
    private final SlowLoft slow = new SlowLoft();
    private final boolean isWild;
    private int linesAbout;

    private RandomRunsTest(int seed) {
        random = new Random(seed);
        isWild = seed % 3 == 0;
    }

    public static void main(String[] args) {
        for (int seed = 1; seed <= 400; seed++) {
            CHECKS.begin("run " + seed);
            new RandomRunsTest(seed).run(seed % 5);
        }
        CHECKS.end();
    }

    private void run(int theme) {
        for (int call = 0; call < CALLS; call++) {
            int chosen = theme == 0 ? random.nextInt(5) : theme;
            if (chosen == 1 || chosen == 0) {
                callLines();
            } else if (chosen == 2) {
                callRigs();
            } else if (chosen == 3) {
                callBraid();
            } else {
                callNets();
            }
        }
    }

    private int pick(int least, int most) {
        if (isWild && random.nextInt(12) == 0) {
            return FAR[random.nextInt(FAR.length)];
        }
        if (random.nextInt(25) == 0) {
            return random.nextBoolean() ? least - 1 : most + 1;
        }
        return least + random.nextInt(most - least + 1);
    }

    /** Small as often as large, so that lines are loaded with what they can bear. */
    private int pickForce(int least) {
        int most = new int[] {5, 30, 100, 700, 5000, 1000000}[random.nextInt(6)];
        return pick(least, most);
    }

    private int line() {
        return pick(Math.max(0, linesAbout - 8), Math.max(1, linesAbout));
    }

    private static String told(Checks.Call call) {
        try {
            return Long.toString(call.answer());
        } catch (RuntimeException e) {
            return e.getClass().getName();
        }
    }

    private void same(String what, Checks.Call one, Checks.Call other) {
        String got = told(one);
        CHECKS.dueText(what, got, told(other));
    }

    private void callLines() {
        int a = line();
        int b = line();
        int c = line();
        int t = pick(1, 30);
        switch (random.nextInt(isWild ? 11 : 14)) {
            case 0: {
                int f = pick(0, 3);
                int s = pick(1, 1000);
                int n = pick(1, 100);
                same("fibre " + f + " " + s + " " + n, () -> { loft.fibre(f, s, n); return 0; },
                    () -> { slow.fibre(f, s, n); return 0; });
                break;
            }
            case 1:
                order(pick(0, 3), random.nextBoolean() ? pick(1, 10000) : pick(1, 40));
                break;
            case 2:
                spinAndLay();
                break;
            case 3: {
                int n = random.nextBoolean() ? pick(1, 50) : pick(1, Math.max(2, lengthOf(a)));
                same("cut " + a + " " + n, () -> loft.cut(a, n), () -> slow.cut(a, n));
                break;
            }
            case 4: {
                int n = pick(2, 6);
                same("splice " + a + " " + b + " " + n, () -> loft.splice(a, b, n), () -> slow.splice(a, b, n));
                break;
            }
            case 5: {
                int n = pickForce(1);
                same("load " + a + " " + n, () -> loft.load(a, n), () -> slow.load(a, n));
                break;
            }
            case 6: {
                int n = random.nextInt(4) == 0 ? pick(1, 1000) : pick(1, 30);
                same("sun " + n, () -> loft.sun(n), () -> slow.sun(n));
                break;
            }
            case 7: {
                int n = pick(0, 9);
                same("lineOf " + a + " " + n, () -> loft.lineOf(a, n), () -> slow.lineOf(a, n));
                break;
            }
            case 8:
                same("yarns " + a, () -> loft.yarns(a), () -> slow.yarns(a));
                break;
            case 9:
                same("lay " + a + " " + b + " " + c + " " + t, () -> loft.lay(a, b, c, t),
                    () -> slow.lay(a, b, c, t));
                break;
            default:
                lookAtAllOf(a);
        }
        countLines();
    }

    private int lengthOf(int line) {
        try {
            return slow.lineOf(line, 2);
        } catch (IndexOutOfBoundsException e) {
            return 1;
        }
    }

    private void order(int kind, int length) {
        same("order " + kind + " " + length, () -> loft.order(kind, length), () -> slow.order(kind, length));
    }

    private void countLines() {
        try {
            for (int i = 0; i < 60; i++) {
                slow.yarns(linesAbout);
                linesAbout++;
            }
        } catch (IndexOutOfBoundsException e) {
            return;
        }
    }

    private void lookAtAllOf(int line) {
        for (int what = 0; what < 10; what++) {
            int n = what;
            same("lineOf " + line + " " + n, () -> loft.lineOf(line, n), () -> slow.lineOf(line, n));
        }
    }

    private void spinAndLay() {
        int hand = pick(0, 1);
        int t = pick(9, 15);
        int f = pick(0, 3);
        int n = random.nextInt(4) == 0 ? pick(1, 3) : pick(1, 10000);
        int before = linesAbout;
        for (int i = 0; i < 3; i++) {
            same("spin", () -> loft.spin(f, t, hand, n), () -> slow.spin(f, t, hand, n));
        }
        same("lay " + before, () -> loft.lay(before, before + 1, before + 2, t),
            () -> slow.lay(before, before + 1, before + 2, t));
    }

    private void callRigs() {
        int a = pick(0, 11);
        int b = pick(0, 11);
        switch (random.nextInt(6)) {
            case 0:
                callLines();
                break;
            case 1: {
                int l = line();
                int p = pick(1, 6);
                int f = pick(0, 50);
                same("rig " + l + " " + p + " " + f, () -> loft.rig(l, p, f), () -> slow.rig(l, p, f));
                break;
            }
            case 2: {
                int n = pickForce(0);
                same("pull " + a + " " + n, () -> loft.pull(a, n), () -> slow.pull(a, n));
                break;
            }
            case 3: {
                int n = pickForce(1);
                same("lift " + a + " " + n, () -> loft.lift(a, n) ? 1 : 0, () -> slow.lift(a, n) ? 1 : 0);
                break;
            }
            case 4: {
                int n = pickForce(0);
                same("series " + a + " " + b + " " + n, () -> loft.series(a, b, n), () -> slow.series(a, b, n));
                break;
            }
            default: {
                int w = pick(0, 20);
                int g = pick(0, 100);
                int t = pick(0, 1000);
                int s = pick(0, 50);
                same("holds " + w + " " + g + " " + t + " " + s, () -> loft.holds(w, g, t, s),
                    () -> slow.holds(w, g, t, s));
            }
        }
    }

    private void callBraid() {
        int a = pick(0, 7);
        int b = pick(0, 7);
        boolean isOver = random.nextBoolean();
        int chosen = random.nextInt(100);
        if (chosen < 2) {
            int n = pick(3, 8);
            same("braid " + n, () -> loft.braid(n), () -> slow.braid(n));
        } else if (chosen < 60) {
            same("cross " + a + " " + isOver, () -> loft.cross(a, isOver), () -> slow.cross(a, isOver));
        } else if (chosen < 70) {
            same("carrier " + a, () -> loft.carrier(a), () -> slow.carrier(a));
        } else if (chosen < 80) {
            same("over " + a + " " + b, () -> loft.over(a, b), () -> slow.over(a, b));
        } else {
            same("orderOf", loft::orderOf, slow::orderOf);
            same("orderAnew", loft::orderAnew, slow::orderOf);
        }
    }

    private void callNets() {
        int n = pick(0, 4);
        int r = pick(0, 10);
        int c = pick(0, 10);
        boolean isRight = random.nextBoolean();
        int chosen = random.nextInt(100);
        if (chosen < 5) {
            same("net " + r + " " + c, () -> loft.net(r, c), () -> slow.net(r, c));
        } else if (chosen < 55) {
            same("tear " + n + " " + r + " " + c + " " + isRight, () -> loft.tear(n, r, c, isRight),
                () -> slow.tear(n, r, c, isRight));
        } else if (chosen < 65) {
            int toRow = random.nextInt(3) == 0 ? pick(0, 10) : r + pick(0, 3);
            int toColumn = c + pick(0, 3);
            same("hole " + n + " " + r + " " + c + " " + toRow + " " + toColumn,
                () -> loft.hole(n, r, c, toRow, toColumn), () -> slow.hole(n, r, c, toRow, toColumn));
        } else if (chosen < 85) {
            same("twines " + n, () -> loft.twines(n), () -> slow.twines(n));
            same("twinesAnew " + n, () -> loft.twinesAnew(n), () -> slow.twines(n));
        } else if (chosen < 88) {
            int t = random.nextInt(5) == 0 ? pick(0, 200) : pick(0, 4);
            same("mend " + n + " " + t, () -> loft.mend(n, t), () -> slow.mend(n, t));
        } else if (chosen < 94) {
            int a = pick(1, 10000);
            int b = pick(1, random.nextBoolean() ? 20 : 10000);
            int k = random.nextBoolean() ? pick(0, 20) : random.nextBoolean() ? b / 2 : b - 1;
            same("join " + a + " " + b + " " + k, () -> loft.join(a, b, k), () -> slow.join(a, b, k));
        } else {
            int m = pick(1, 1000);
            int s = pick(1, 1000);
            int h = pick(1, 99);
            same("depth " + m + " " + s + " " + h, () -> loft.depth(m, s, h), () -> slow.depth(m, s, h));
        }
    }
}
