/** Sweeps over errors and what is told; the single runs stand in telling.txt. */
final class TellingEdges {
    private TellingEdges() {
    }

    static void all() {
        constants();
        digestsOfLots();
        longestRun();
        laterCalls();
    }

    private static void constants() {
        Calls.equal(Sentence.quote(0, "BAD (-1)"), MarkScripts.BAD, -1);
        Calls.equal(Sentence.quote(0, "FULL (-2)"), MarkScripts.FULL, -2);
        Calls.equal(Sentence.quote(0, "STATE (-4)"), MarkScripts.STATE, -4);
        Calls.equal(Sentence.quote(0, "SPENT (-6)"), MarkScripts.SPENT, -6);
        Calls.equal(Sentence.quote(0, "FINDING (-3)"), MarkScripts.FINDING, -3);
        Calls.equal(Sentence.quote(0, "NONE (-9)"), MarkScripts.NONE, -9);
    }

    /** digest() against what the other calls tell, with much there. */
    private static void digestsOfLots() {
        String title = Sentence.quote(36, "Computes a hash of the state");
        int[] seeds = {1, 8, 333, 2147483646};
        for (int seed : seeds) {
            Tape tape = new Tape();
            tape.type(0, "a(bcdefghijkl)");
            tape.call("document", 0, 0);
            tape.type(1, "K(1(2)a(A(b)C)rJ)");
            tape.call("document", 1, 1);
            tape.call("row", 1, 40);
            tape.call("lay", 1, 39, Integer.MIN_VALUE);
            tape.call("row", 4, 0);
            checkDigest(title + " before changes", tape);
            tape.call("keep", 2);
            tape.call("lots", 1 + seed % 20, seed);
            tape.call("keep", 0);
            tape.call("price", 2, 9);
            checkDigest(title + " after lots from " + seed, tape);
        }
    }

    private static void checkDigest(String title, Tape tape) {
        long due = Digest.of(tape);
        Calls.equal(title, tape.call("digest"), due);
        Calls.equal(title + ", a second time", tape.call("digest"), due);
    }

    /** Findings are what a run can have most of. */
    private static void longestRun() {
        String title = Sentence.quote(Sentence.OPENING, "An object is used for at most 512 calls after it has been made");
        MarkScripts object = new MarkScripts();
        for (int c = 0; c < Tape.MOST_CALLS - 1; c++) {
            object.tear(c % 6);
        }
        Calls.equal(title + ": findings(1) after 511 calls", object.findings(1), Tape.MOST_CALLS - 1);
    }

    /** LANGUAGE.md asks of any call in any state that it does not throw, so also of the later ones. */
    private static void laterCalls() {
        String title = Sentence.quote(Sentence.OPENING, "what later calls answer is free");
        MarkScripts object = new MarkScripts();
        Calls.type(object, 0, "a(b(cd)K1)");
        for (int c = 0; c < 20 * Tape.MOST_CALLS; c++) {
            object.document(c / 40 % 2, c % 100 < 50 ? 0 : 1);
            object.lots(1 + c % 20, 1 + c);
            object.behind(c % 24, 1);
            object.keep(c % 3);
            object.add(c % 2, c % 12, 0, c % 2, 48 + c % 10);
            object.on((c + 1) % 3);
            object.digest();
        }
        Calls.equal(title + ", and there is one", object.count(0) > 0 ? 1 : 0, 1);
    }
}
