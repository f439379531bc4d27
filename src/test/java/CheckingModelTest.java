import java.util.ArrayList;
import java.util.List;

/**
 * Promise 3: code with many jumps between instructions of the same number of entries, so that ways meet with different
 * kinds; install and CardModel must think alike of it. The code comes from a fixed row of numbers.
 */
final class CheckingModelTest extends Support {
    private static final int CODES = 1_000_000;
    private static final int[] OPS = {PUSH, LOAD, LOAD, STORE, STORE, NULL, DUP, DROP, ADD, LENGTH, JUMP, JZERO, JZERO, ROOT};
    private static final int[] TAKEN = {0, 0, 0, 1, 1, 0, 1, 1, 2, 1, 0, 1, 1, 0};
    private static final int[] ADDED = {1, 1, 1, 0, 0, 1, 2, 0, 1, 1, 0, 0, 0, 1};

    private static long seed;
    private static int good;
    private static int bad;

    public static void main(String[] args) {
        for (int number = 0; number < CODES; number++) {
            seed = number * 104_729L + 5;
            oneCode();
        }
        System.out.println("good code " + good + ", bad code " + bad);
        due("good code came up often: " + good, good > 10_000, true);
        due("bad code came up often: " + bad, bad > 10_000, true);
        end();
    }

    private static int pick(int bound) {
        seed = seed * 6364136223846793005L + 1442695040888963407L;
        return (int) ((seed >>> 33) % bound);
    }

    private static void oneCode() {
        int count = 3 + pick(14);
        int[] op = new int[count];
        int[] depths = new int[count + 1];
        for (int at = 0; at < count - 1; at++) {
            int chosen = pick(OPS.length);
            int left = depths[at] - TAKEN[chosen] + ADDED[chosen];
            boolean fits = depths[at] >= TAKEN[chosen] && left <= 4;
            op[at] = fits ? OPS[chosen] : BEGIN;
            depths[at + 1] = fits ? left : depths[at];
        }
        op[count - 1] = depths[count - 1] > 0 && pick(2) == 0 ? RETURN : JUMP;
        compare(op, depths);
    }

    private static void compare(int[] op, int[] depths) {
        TearSafeCard card = new TearSafeCard(20);
        CardModel model = new CardModel(20);
        StringBuilder code = new StringBuilder();
        for (int at = 0; at < op.length; at++) {
            boolean jumps = op[at] == JUMP || op[at] == JZERO;
            int b = jumps ? target(depths, op[at] == JZERO ? depths[at] - 1 : depths[at], op.length) : pick(2);
            card.put(op[at], b);
            model.put(op[at], b);
            code.append(op[at]).append(' ').append(b).append(", ");
        }
        int got = card.install(0, 0, true);
        if (got == TearSafeCard.BAD) {
            bad++;
        } else {
            good++;
        }
        due(code.toString(), got, model.install(0, 0, true));
    }

    private static int target(int[] depths, int wanted, int count) {
        List<Integer> found = new ArrayList<>();
        for (int at = 0; at < count; at++) {
            if (depths[at] == wanted) {
                found.add(at);
            }
        }
        return found.isEmpty() ? 0 : found.get(pick(found.size()));
    }
}
