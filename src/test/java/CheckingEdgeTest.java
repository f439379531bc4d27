/** The edges that CHECKING names: a method for each part of its sentence, and in it each instruction. */
final class CheckingEdgeTest extends Support {
    private static final int OPS = 25;

    /** The kinds that an instruction takes, its top last: n a number, r a reference, e either. */
    private static final String[] TAKES = {
        "", "", "e", "nn", "nn", "nn", "nn", "", "n", "", "r", "n", "rn", "rnn", "r", "r", "", "", "n", "n", "e", "e", "", "", ""};

    /** The kinds that an instruction leaves where it has taken numbers for either. */
    private static final String[] LEAVES = {
        "n", "n", "", "n", "n", "n", "n", "", "", "r", "", "r", "n", "", "", "n", "r", "r", "n", "", "nn", "", "", "", ""};

    public static void main(String[] args) {
        everyB();
        everyWay();
        bothWays();
        onBehindCall();
        asManyEntries();
        rightKinds();
        eitherKind();
        leftKinds();
        noMoreThanFour();
        setLocals();
        behindTheLast();
        sameNumberOfEntries();
        end();
    }

    private static int[] entries(String kinds) {
        int[] code = new int[2 * kinds.length()];
        for (int at = 0; at < kinds.length(); at++) {
            code[2 * at] = kinds.charAt(at) == 'r' ? NULL : PUSH;
        }
        return code;
    }

    /** The entries, the instruction, and then a round that never ends, which any stack is good for. */
    private static int[] around(String kinds, int op) {
        return after(code(), kinds, op);
    }

    /** As around, with other code before. */
    private static int[] after(int[] before, String kinds, int op) {
        int next = before.length / 2 + kinds.length() + 1;
        return join(before, entries(kinds), code(op, op == JUMP || op == JZERO ? next : 0), code(JUMP, next));
    }

    private static void everyB() {
        sentence("the code is GOOD if every b that is looked at is as said");
        int[] least = {-128, 0, 0, 0, 0, 0, 0, 0, 0, 0, 0, 0, 0, 0, 0, 0, 0, 0, 0, 0, 0, 0, 0, 0, 0};
        int[] greatest = {127, 1, 1, 0, 0, 0, 0, 3, 3, 1, 1, 1, 0, 0, 0, 0, 5, 0, 5, 0, 0, 0, 0, 0, 0};
        for (int op = 0; op < OPS; op++) {
            if (greatest[op] == 0) {
                continue;
            }
            String entries = op == SETROOT ? "r" : TAKES[op].isEmpty() ? "" : "n";
            int[] b = {Integer.MIN_VALUE, least[op] - 1, least[op], greatest[op], greatest[op] + 1, Integer.MAX_VALUE};
            for (int each : b) {
                boolean fits = each >= least[op] && each <= greatest[op];
                goodOrBad("op " + op + " with b " + each + " behind RETURN", fits, LOAD, 0, RETURN, 0, op, each, RETURN, 0);
                if (op != LOAD && op != JUMP && op != JZERO) {
                    int last = entries.length() + 1;
                    goodOrBad("op " + op + " with b " + each, fits, join(entries(entries), code(op, each, JUMP, last)));
                }
            }
        }
        for (int at = 0; at < 15; at++) {
            int[] code = join(times(15, BEGIN, 0), code(JUMP, 15));
            code[2 * at] = JUMP;
            code[2 * at + 1] = at + 1;
            good("JUMP as instruction " + at, code);
            code[2 * at + 1] = 16;
            bad("JUMP 16 as instruction " + at, code);
            code[2 * at + 1] = -1;
            bad("JUMP -1 as instruction " + at, code);
        }
    }

    private static void everyWay() {
        sentence("along every way through the code from instruction 0");
        good("what no way comes to is not looked at", LOAD, 0, RETURN, 0, DROP, 0, ADD, 0, LOAD, 1, PUSH, 0);
        good("what is jumped over is not looked at", JUMP, 2, DROP, 0, LOAD, 0, RETURN, 0);
        bad("a fault of instruction 0", DROP, 0, LOAD, 0, RETURN, 0);
        for (int at = 0; at < 15; at++) {
            int[] code = join(times(15, BEGIN, 0), code(JUMP, 15));
            code[2 * at] = DROP;
            bad("a fault of instruction " + at, code);
        }
        bad("a fault of the sixteenth instruction", join(times(15, BEGIN, 0), code(RETURN, 0)));
        bad("a fault that a jump back comes to", JUMP, 3, DROP, 0, JUMP, 2, JUMP, 1);
        good("the same without it", JUMP, 3, BEGIN, 0, JUMP, 2, JUMP, 1);
        bad("a fault of the second round", LOAD, 0, DROP, 0, LOAD, 0, PUSH, 1, ADD, 0, DROP, 0, NULL, 0, STORE, 0, JUMP, 2);
        good("a round without it", LOAD, 0, DROP, 0, LOAD, 0, PUSH, 1, ADD, 0, DROP, 0, PUSH, 0, STORE, 0, JUMP, 2);
        lateFaults();
    }

    /** A reference goes one cell further in each round, and is taken for a number in the last one. */
    private static void lateFaults() {
        int[] start = {PUSH, 1, PUSH, 1, LOAD, 0, STORE, 1};
        int[] round = {LOAD, 0, PUSH, 1, ADD, 0, DROP, 0, LOAD, 1, STORE, 0, STORE, 1};
        bad("a fault of the fourth round", join(start, round, code(NULL, 0, JUMP, 4)));
        good("four rounds without it", join(start, round, code(PUSH, 0, JUMP, 4)));
        int[] longer = {LOAD, 1, STORE, 0, STORE, 1};
        bad("a fault of a later round", join(start, longer, code(LOAD, 0, JZERO, 9, NULL, 0, JUMP, 4)));
        good("rounds without it", join(start, longer, code(LOAD, 0, JZERO, 9, PUSH, 0, JUMP, 4)));
    }

    private static void bothWays() {
        sentence("JZERO going both ways, whatever the numbers are");
        bad("the way on is wrong, though 0 would jump", PUSH, 0, JZERO, 3, DROP, 0, PUSH, 1, RETURN, 0);
        bad("the way to b is wrong, though 1 would go on", PUSH, 1, JZERO, 4, PUSH, 1, RETURN, 0, DROP, 0, JUMP, 2);
        good("both are right", PUSH, 1, JZERO, 4, PUSH, 1, RETURN, 0, BEGIN, 0, JUMP, 2);
        bad("the way on goes behind the last", PUSH, 0, JZERO, 0);
        good("a JZERO to the next instruction", PUSH, 0, JZERO, 2, PUSH, 1, RETURN, 0);
        bad("a JZERO to itself finds one entry less", PUSH, 0, JZERO, 1, PUSH, 1, RETURN, 0);
    }

    private static void onBehindCall() {
        sentence("CALL going on behind it");
        for (int b = 0; b <= 5; b++) {
            good("CALL " + b + " of an absent method", PUSH, 0, CALL, b, RETURN, 0);
            bad("CALL " + b + " as the last", PUSH, 0, CALL, b);
            bad("a fault behind CALL " + b, PUSH, 0, CALL, b, LENGTH, 0, RETURN, 0);
        }
        TearSafeCard card = new TearSafeCard(100);
        loadGood(card, 0, 1, true, JUMP, 0);
        due("CALL of a method that never answers", load(card, 0, 0, true, PUSH, 0, CALL, 1), TearSafeCard.BAD);
        due("the same, gone on", load(card, 0, 0, true, PUSH, 0, CALL, 1, RETURN, 0), 3);
    }

    private static void asManyEntries() {
        sentence("each instruction finds as many entries as it takes");
        for (int op = 0; op < OPS; op++) {
            String kinds = TAKES[op].replace('e', 'n');
            if (op != LOAD) {
                good("as many as op " + op + " takes", around(kinds, op));
            }
            for (int fewer = 1; fewer <= kinds.length(); fewer++) {
                bad(fewer + " fewer than op " + op + " takes", around(kinds.substring(fewer), op));
                bad("the same with a number in local 1", after(code(PUSH, 1, STORE, 1), kinds.substring(fewer), op));
                bad("the same with references in the locals",
                    after(code(NULL, 0, DUP, 0, STORE, 0, STORE, 1), kinds.substring(fewer), op));
            }
            if (kinds.length() + Math.max(0, LEAVES[op].length() - kinds.length()) < 4) {
                good("a number more than op " + op + " takes", around("n" + kinds, op));
                good("a reference more than op " + op + " takes", around("r" + kinds, op));
            }
        }
    }

    private static void rightKinds() {
        sentence("of the right kinds");
        for (int op = 0; op < OPS; op++) {
            String kinds = TAKES[op];
            for (int at = 0; at < kinds.length(); at++) {
                char kind = kinds.charAt(at);
                char other = kind == 'n' ? 'r' : 'n';
                if (kind != 'e') {
                    String wrong = kinds.substring(0, at) + other + kinds.substring(at + 1);
                    bad("op " + op + " with " + wrong, around(wrong, op));
                    good("op " + op + " with " + kinds, around(kinds, op));
                }
            }
        }
        bad("right on one way, wrong on the other", LOAD, 0, JZERO, 4, NULL, 0, JUMP, 5, PUSH, 1, RETURN, 0);
        bad("wrong on one way, right on the other", LOAD, 0, JZERO, 4, PUSH, 1, JUMP, 5, NULL, 0, RETURN, 0);
        good("right on both ways", LOAD, 0, JZERO, 4, PUSH, 2, JUMP, 5, PUSH, 1, RETURN, 0);
    }

    private static void eitherKind() {
        sentence("(number or reference; STORE, DUP, DROP take either)");
        int[] either = {STORE, DUP, DROP};
        for (int op : either) {
            good("op " + op + " takes a number", around("n", op));
            good("op " + op + " takes a reference", around("r", op));
            good("op " + op + " takes what is a number on one way and a reference on the other",
                LOAD, 0, JZERO, 4, NULL, 0, JUMP, 5, PUSH, 1, op, 0, JUMP, 6);
        }
        good("what is either is stored, loaded, doubled and dropped", LOAD, 0, JZERO, 4, NULL, 0, JUMP, 5, PUSH, 1, STORE, 1,
            LOAD, 1, DUP, 0, DROP, 0, DROP, 0, PUSH, 1, RETURN, 0);
        bad("what is either is no number", LOAD, 0, JZERO, 4, NULL, 0, JUMP, 5, PUSH, 1, STORE, 1, LOAD, 1, RETURN, 0);
        bad("what is either is no reference", LOAD, 0, JZERO, 4, NULL, 0, JUMP, 5, PUSH, 1, STORE, 1, LOAD, 1, LENGTH, 0, RETURN, 0);
        for (int local = 0; local < 2; local++) {
            int[] twoKinds = {LOAD, 0, JZERO, 5, NULL, 0, STORE, local, JUMP, 7, PUSH, 1, STORE, local};
            good("a local that is either, not loaded", join(twoKinds, code(PUSH, 1, RETURN, 0)));
            good("a local that is either, loaded and dropped", join(twoKinds, code(LOAD, local, DROP, 0, PUSH, 1, RETURN, 0)));
            good("a local that is either, loaded and stored", join(twoKinds, code(LOAD, local, STORE, 1 - local, PUSH, 1, RETURN, 0)));
            good("a local that is either, set anew", join(twoKinds, code(PUSH, 1, STORE, local, LOAD, local, RETURN, 0)));
            bad("a local that is either is no number", join(twoKinds, code(LOAD, local, RETURN, 0)));
            bad("a local that is either is no reference", join(twoKinds, code(LOAD, local, SHARE, 0, PUSH, 1, RETURN, 0)));
        }
    }

    /** What an instruction leaves is asked for by the next ones: RETURN takes a number, SHARE a reference. */
    private static void leftKinds() {
        sentence("an entry or local is a number or a reference");
        for (int op = 0; op < OPS; op++) {
            if (op == JUMP || op == RETURN) {
                continue;
            }
            String kinds = TAKES[op].replace('e', 'n');
            int next = kinds.length() + 1;
            int[] before = join(entries(kinds), code(op, op == JZERO ? next : 0));
            boolean number = LEAVES[op].endsWith("n");
            boolean reference = LEAVES[op].endsWith("r");
            goodOrBad("a number from op " + op, number, join(before, code(RETURN, 0)));
            goodOrBad("a reference from op " + op, reference, join(before, code(SHARE, 0, JUMP, next + 1)));
            if (LEAVES[op].length() < 2) {
                bad("two entries from op " + op, join(before, code(DROP, 0, DROP, 0, JUMP, next + 2)));
            }
        }
        bad("a reference doubled is a reference", NULL, 0, DUP, 0, RETURN, 0);
        good("a reference doubled is a reference", NULL, 0, DUP, 0, SHARE, 0, SHARE, 0, LOAD, 0, RETURN, 0);
        for (int local = 0; local < 2; local++) {
            good("a number stored", PUSH, 1, STORE, local, LOAD, local, RETURN, 0);
            bad("a number stored is no reference", PUSH, 1, STORE, local, LOAD, local, SHARE, 0, JUMP, 4);
            good("a reference stored", NULL, 0, STORE, local, LOAD, local, SHARE, 0, JUMP, 4);
            bad("a reference stored is no number", NULL, 0, STORE, local, LOAD, local, RETURN, 0);
        }
        good("storing into one local leaves the other", NULL, 0, STORE, 1, LOAD, 0, RETURN, 0);
        good("storing into one local leaves the other", PUSH, 1, STORE, 1, NULL, 0, STORE, 0, LOAD, 1, RETURN, 0);
    }

    private static void noMoreThanFour() {
        sentence("leaves no more than 4");
        for (int op = 0; op < OPS; op++) {
            String kinds = TAKES[op].replace('e', 'n');
            int growth = LEAVES[op].length() - kinds.length();
            String four = "rrrr".substring(kinds.length()) + kinds;
            goodOrBad("op " + op + " with four entries", growth <= 0, around(four, op));
            String three = four.substring(1);
            good("op " + op + " with three entries", around(three, op));
        }
    }

    private static void setLocals() {
        sentence("LOAD finds a local that is set");
        good("local 0 is set at first", LOAD, 0, RETURN, 0);
        bad("local 1 is not", LOAD, 1, RETURN, 0);
        good("local 1 when it has been set", LOAD, 0, STORE, 1, LOAD, 1, RETURN, 0);
        good("local 1 when it has been set to null", NULL, 0, STORE, 1, LOAD, 1, SHARE, 0, JUMP, 4);
        bad("STORE 0 does not set local 1", PUSH, 1, STORE, 0, LOAD, 1, RETURN, 0);
        bad("set on the way on alone", LOAD, 0, JZERO, 4, PUSH, 1, STORE, 1, LOAD, 1, RETURN, 0);
        bad("set on the way to b alone", LOAD, 0, JZERO, 3, JUMP, 5, PUSH, 1, STORE, 1, LOAD, 1, RETURN, 0);
        good("set on both ways", LOAD, 0, JZERO, 5, PUSH, 1, STORE, 1, JUMP, 7, PUSH, 2, STORE, 1, LOAD, 1, RETURN, 0);
        good("set on neither way and not loaded", LOAD, 0, JZERO, 3, BEGIN, 0, LOAD, 0, RETURN, 0);
        good("set on the way on alone and not loaded", LOAD, 0, JZERO, 4, PUSH, 1, STORE, 1, LOAD, 0, RETURN, 0);
        good("set on the way to b alone and not loaded", LOAD, 0, JZERO, 3, JUMP, 5, PUSH, 1, STORE, 1, LOAD, 0, RETURN, 0);
        good("set on one way alone, and then on both", LOAD, 0, JZERO, 4, PUSH, 1, STORE, 1, PUSH, 2, STORE, 1, LOAD, 1, RETURN, 0);
        bad("set behind the LOAD, and then round", LOAD, 1, STORE, 1, JUMP, 0);
        bad("set by a later round, not by the first", LOAD, 0, JZERO, 5, PUSH, 1, STORE, 1, JUMP, 0, LOAD, 1, RETURN, 0);
        bad("a LOAD to drop", LOAD, 1, DROP, 0, LOAD, 0, RETURN, 0);
    }

    private static void behindTheLast() {
        sentence("no way goes on behind the last instruction");
        for (int op = 0; op < OPS; op++) {
            String kinds = TAKES[op].replace('e', 'n');
            int[] code = join(entries(kinds), code(op, 0));
            goodOrBad("op " + op + " as the last", op == JUMP || op == RETURN, code);
            int pad = 16 - code.length / 2;
            int[] sixteen = join(times(pad, BEGIN, 0), code);
            goodOrBad("op " + op + " as the sixteenth", op == JUMP || op == RETURN, sixteen);
            if (op == LOAD || op == JUMP) {
                continue;
            }
            good("op " + op + " as the last but one", join(entries(kinds), code(op, 0), code(JUMP, kinds.length() + 1)));
        }
        good("a last instruction that no way comes to", LOAD, 0, RETURN, 0, BEGIN, 0);
    }

    private static void sameNumberOfEntries() {
        sentence("no two ways come to the same instruction with different numbers of entries");
        bad("the way on has one more", LOAD, 0, JZERO, 3, PUSH, 1, LOAD, 0, RETURN, 0);
        bad("the way to b has one more", PUSH, 1, LOAD, 0, JZERO, 4, DROP, 0, LOAD, 0, RETURN, 0);
        good("both have as many", PUSH, 1, LOAD, 0, JZERO, 5, DROP, 0, PUSH, 2, RETURN, 0);
        good("as many of different kinds", PUSH, 1, LOAD, 0, JZERO, 5, DROP, 0, NULL, 0, DROP, 0, LOAD, 0, RETURN, 0);
        bad("none and four", LOAD, 0, JZERO, 6, PUSH, 1, PUSH, 1, PUSH, 1, PUSH, 1, JUMP, 6);
        bad("a round with one more each time", PUSH, 1, JUMP, 0);
        bad("a round with one fewer each time", PUSH, 1, PUSH, 1, PUSH, 1, DROP, 0, JUMP, 3);
        good("a round with as many", PUSH, 1, PUSH, 1, DROP, 0, JUMP, 1);
        bad("a jump to an earlier instruction with one more", BEGIN, 0, PUSH, 1, JUMP, 0);
        bad("a jump to itself with one fewer", LOAD, 0, JZERO, 1, JUMP, 0);
        good("ways that never meet", LOAD, 0, JZERO, 4, PUSH, 1, RETURN, 0, PUSH, 1, PUSH, 1, RETURN, 0);
        bad("ways that meet at RETURN alone", LOAD, 0, JZERO, 4, PUSH, 1, JUMP, 6, PUSH, 1, PUSH, 1, RETURN, 0);
        good("ways of any number where no way comes to", JUMP, 4, PUSH, 1, PUSH, 1, JUMP, 1, LOAD, 0, RETURN, 0);
    }
}
