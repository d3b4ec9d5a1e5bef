/** Each promise of the document by its number: ordinary calls, the edges it names, wrong calls. */
public final class PromiseTest {
    /** Documents a(bc) and b, all prices 1 again, and no room for another change. */
    private static final String FORTY_CHANGES = "type(0, 'a(bc)'); document(0, 0) = 3; type(0, 'b'); document(1, 0) = 1;"
        + "price(0, 2) = 1; price(0, 1) = 2;".repeat(20) + "count(10) = 40;";

    public static void main(String[] args) {
        newObject();
        rows();
        copies();
        means();
        texts();
        faults();
        documents();
        nodes();
        marks();
        distances();
        prices();
        mappings();
        steps();
        sequences();
        works();
        searches();
        codes();
        cuts();
        additions();
        turns();
        undoing();
        saving();
        lots();
        told();
        counts();
        findings();
        digests();
        Calls.end("PromiseTest");
    }

    private static void newObject() {
        Calls.run("promise 1: nothing is there, nothing asked or found", """
            asked() = 0; finding() = 0; findings(1) = 0; findings(2) = 0; findings(3) = 0; findings(4) = 0;
            findings(5) = 0; count(0) = 0; count(1) = 0; count(2) = -1; count(3) = -1; count(4) = -1; count(5) = 0;
            count(6) = 0; count(7) = 1; count(8) = 1; count(9) = 1; count(10) = 0; count(11) = 0; count(12) = 0;
            count(13) = 0; at(0, 0) = -3; at(5, 0) = -3; put(0, 0, 0) = -3; put(3, 0, 0) = -3; on(0) = -3;
            on(1) = -3; on(2) = -3; write(0, 0) = -4; write(1, 0) = -4; node(0, 0, 0) = -1; node(1, 0, 0) = -1""");
    }

    private static void rows() {
        Calls.run("promise 2: row", """
            row(0, 40) = 40; row(5, 0) = 0; count(11) = 2; at(0, 39) = 1; asked() = 0; lay(0, 39, 7) = 1;
            row(0, 41) = -1; at(0, 39) = 1; asked() = 7; row(0, 40) = 40; at(0, 39) = 1; asked() = 0;
            lay(0, 3, 9) = 1; row(0, 3) = 3; at(0, 3) = -3; row(0, 4) = 4; at(0, 3) = 1; asked() = 0;
            row(-1, 1) = -1; row(6, 1) = -1; row(6, -1) = -1; row(-1, -1) = -1; findings(5) = 0;
            row(1, -1) = -3; finding() = 5; row(0, -2147483648) = -3; findings(5) = 2; at(0, 3) = 1;
            row(0, 2147483647) = -1; row(-2147483648, 0) = -1; row(2147483647, 0) = -1; count(11) = 2;
            lay(0, 0, 5) = 1; row(0, 1) = 1; at(0, 0) = 1; asked() = 0""");
        Calls.run("promise 3: lay", """
            lay(0, 0, 5) = -3; finding() = 1; row(0, 2) = 2; lay(0, 0, -5) = 1; asked() = 0; lay(0, 0, 2147483647) = 1;
            asked() = -5; lay(0, 1, 3) = 1; asked() = 0; lay(0, 0, 0) = 1; asked() = 2147483647; lay(0, 2, 1) = -3;
            finding() = 2; lay(0, -1, 1) = -3; findings(2) = 2; lay(6, 0, 1) = -1; lay(-1, 0, 1) = -1;
            asked() = 2147483647; lay(1, 7, 1) = -3; finding() = 1; at(0, 1) = 1; asked() = 3;
            row(2, 0) = 0; lay(2, 0, 1) = -3; finding() = 2""");
        Calls.run("promise 4: at", """
            at(0, -1) = -3; finding() = 1; row(0, 3) = 3; lay(0, 2, 8) = 1; at(0, 2) = 1; asked() = 8; at(0, 0) = 1;
            asked() = 0; at(0, 3) = -3; finding() = 2; at(0, -1) = -3; at(0, 2147483647) = -3; at(0, -2147483648) = -3;
            findings(2) = 4; at(6, 0) = -1; at(-1, 0) = -1; at(1, 0) = -3; finding() = 1; asked() = 0;
            row(2, 0) = 0; at(2, 0) = -3; finding() = 2""");
        Calls.run("promise 5: tear", """
            tear(0) = -3; finding() = 1; row(0, 0) = 0; row(1, 2) = 2; tear(0) = 1; count(11) = 1; at(0, 0) = -3;
            finding() = 1; tear(0) = -3; at(1, 1) = 1; tear(6) = -1; tear(-1) = -1; row(5, 1) = 1; tear(5) = 1;
            count(11) = 1; findings(1) = 3""");
    }

    private static void copies() {
        String five = "row(0, 5) = 5; lay(0, 0, 1); lay(0, 1, 2); lay(0, 2, 3); lay(0, 3, 4); lay(0, 4, 5);";
        Calls.run("promise 6: copy within an array, to the right", five + """
            copy(0, 0, 0, 1, 4) = 1; at(0, 0); asked() = 1; at(0, 1); asked() = 1; at(0, 2); asked() = 2;
            at(0, 3); asked() = 3; at(0, 4); asked() = 4""");
        Calls.run("promise 6: copy within an array, to the left", five + """
            copy(0, 1, 0, 0, 4) = 1; at(0, 0); asked() = 2; at(0, 1); asked() = 3; at(0, 2); asked() = 4;
            at(0, 3); asked() = 5; at(0, 4); asked() = 5""");
        Calls.run("promise 6: copy to another array", five + """
            row(3, 3) = 3; copy(0, 2, 3, 1, 2) = 1; at(3, 0); asked() = 0; at(3, 1); asked() = 3; at(3, 2);
            asked() = 4; at(0, 2); asked() = 3; copy(0, 5, 3, 3, 0) = 1; copy(0, 0, 0, 0, 5) = 1;
            copy(0, 5, 3, 3, 1) = -3; finding() = 2; asked() = 3""");
        Calls.run("promise 6: copy of no elements of an empty array", five + """
            row(1, 0) = 0; copy(1, 0, 0, 5, 0) = 1; copy(0, 5, 1, 0, 0) = 1; copy(1, 0, 1, 0, 0) = 1; finding() = 0;
            copy(1, 0, 0, 0, 1) = -3; finding() = 2; copy(0, 0, 1, 0, 1) = -3; findings(2) = 2; findings(1) = 0""");
        Calls.run("promise 6: errors of copy", five + """
            copy(6, 0, 0, 0, -1) = -1; copy(0, 0, 6, 0, -1) = -1; copy(-1, 0, 0, 0, 1) = -1; copy(0, 0, -1, 0, 1) = -1;
            finding() = 0; copy(1, 0, 0, 0, -1) = -3; finding() = 5; copy(1, -1, 0, 0, 1) = -3; finding() = 1;
            copy(0, -1, 1, 0, 1) = -3; finding() = 1; copy(0, -1, 0, 0, 1) = -3; finding() = 2;
            copy(0, 0, 0, -1, 1) = -3; copy(0, 0, 0, -1, 0) = -3; copy(0, -1, 0, 0, 0) = -3; copy(0, 6, 0, 0, 0) = -3;
            copy(0, 2, 0, 0, 4) = -3; copy(0, 0, 0, 2, 4) = -3; copy(0, 1, 0, 0, 2147483647) = -3;
            copy(0, 2147483647, 0, 0, 2147483647) = -3; copy(0, 0, 0, 2147483647, 1) = -3; findings(2) = 10;
            findings(5) = 1; findings(1) = 2; at(0, 4); asked() = 5; at(0, 0); asked() = 1""");
    }

    private static void means() {
        Calls.run("promise 7: mean", """
            mean(0) = -3; finding() = 1; row(0, 0) = 0; mean(0) = -3; finding() = 4; mean(6) = -1; mean(-1) = -1;
            row(0, 2) = 2; lay(0, 0, -3); mean(0) = 1; asked() = -1; lay(0, 0, 3); mean(0) = 1; asked() = 1;
            lay(0, 0, 2147483647); lay(0, 1, 2147483647); mean(0) = 1; asked() = 2147483647;
            lay(0, 0, -2147483648); lay(0, 1, -2147483648); mean(0) = 1; asked() = -2147483648;
            row(1, 3) = 3; lay(1, 0, -1); lay(1, 1, -1); mean(1) = 1; asked() = 0; lay(1, 2, -2); mean(1) = 1;
            asked() = -1; row(2, 1) = 1; lay(2, 0, 42); mean(2) = 1; asked() = 42; findings(4) = 1; findings(1) = 1;
            row(3, 40) = 40; lay(3, 0, 40); lay(3, 39, 80); mean(3) = 1; asked() = 3; copy(3, 0, 3, 20, 20) = 1;
            lay(3, 39, 0); mean(3) = 1; asked() = 2""");
    }

    private static void texts() {
        Calls.run("promise 8: text", """
            text(0, 60) = 60; text(3, 0) = 0; count(12) = 2; put(0, 59, 65) = 1032; text(0, 61) = -1;
            put(0, 59, 66) = 1065; text(0, 60) = 60; put(0, 59, 66) = 1032; text(0, 2) = 2; put(0, 2, 1) = -3;
            finding() = 2; text(0, 60) = 60; put(0, 59, 66) = 1032; text(4, 1) = -1; text(-1, 1) = -1; text(4, -1) = -1;
            text(0, 2147483647) = -1; finding() = 2; text(1, -1) = -3; finding() = 5; text(0, -2147483648) = -3;
            findings(5) = 2; put(0, 59, 66) = 1066; count(12) = 2""");
        Calls.run("promise 9: put", """
            put(0, 0, 1) = -3; finding() = 1; text(0, 2) = 2; put(0, 0, 127) = 1032; put(0, 0, 128) = 1127;
            put(0, 0, 255) = 872; put(0, 0, 256) = 999; put(0, 0, -129) = 1000; put(0, 0, 97) = 1127;
            put(0, 0, -2147483648) = 1097; put(0, 0, 2147483647) = 1000; put(0, 0, 5) = 999; put(0, 2, 5) = -3;
            finding() = 2; put(0, -1, 5) = -3; put(4, 0, 5) = -1; put(-1, 0, 5) = -1; findings(2) = 2;
            put(1, 9, 5) = -3; finding() = 1; put(0, 0, 9) = 1005; put(0, 1, 9) = 1032; asked() = 0""");
    }

    private static void faults() {
        Calls.run("promise 10: what is a document", """
            type(0, 'a'); fault(0) = -9; type(0, 'a(b)'); fault(0) = -9; type(0, ' R ( 0 9 ( r ) i ) '); fault(0) = -9;
            type(0, 'a(b(c(d(e(f(g(h(i(j(k(l)))))))))))'); fault(0) = -9; type(0, 'A(bcdefghijkl)'); fault(0) = -9;
            type(0, 'a (b)'); fault(0) = -9; type(0, 'a(b(c)d(e)f)'); fault(0) = -9""");
        Calls.run("promise 10: a byte that cannot stand", """
            type(0, '()'); fault(0) = 0; type(0, ')'); fault(0) = 0; type(0, 's'); fault(0) = 0; type(0, 'S'); fault(0) = 0;
            type(0, '`'); fault(0) = 0; type(0, '@'); fault(0) = 0; type(0, '/'); fault(0) = 0; type(0, ':'); fault(0) = 0;
            type(0, 'a()'); fault(0) = 2; type(0, 'a(b())'); fault(0) = 4; type(0, 'ab'); fault(0) = 1;
            type(0, 'a b'); fault(0) = 2; type(0, 'a)'); fault(0) = 1; type(0, 'a(b))'); fault(0) = 4;
            type(0, 'a(b)c'); fault(0) = 4; type(0, 'a(b)(c)'); fault(0) = 4; type(0, 'a((b))'); fault(0) = 2;
            type(0, 'a(b)  )'); fault(0) = 6; type(0, 'a(b(c)(d))'); fault(0) = 6; type(0, 'a( )'); fault(0) = 3;
            type(0, 'a(z()'); fault(0) = 2; type(0, 'a'); put(0, 0, -31) = 1097; fault(0) = 0;
            type(0, 'a '); put(0, 1, 0) = 1032; fault(0) = 1; put(0, 1, 9) = 1000; fault(0) = 1""");
        Calls.run("promise 10: a thirteenth label", """
            type(0, 'a(bcdefghijklm)'); fault(0) = 13; type(0, 'a(bcdefghijkl m)'); fault(0) = 14;
            type(0, 'a(bcdefghijkl(m))'); fault(0) = 14; type(0, 'a(b(c(d(e(f(g(h(i(j(k(l(m))))))))))))'); fault(0) = 24;
            type(0, 'a(bcdefghijkl)m'); fault(0) = 14; type(0, 'a(bcdefghijkl()'); fault(0) = 14;
            type(0, 'a(bcdefghijkl('); fault(0) = 14""");
        Calls.run("promise 10: a text that ends too early", """
            text(0, 0) = 0; fault(0) = 0; text(0, 60) = 60; fault(0) = 60; type(0, 'a('); fault(0) = 2;
            type(0, 'a(b'); fault(0) = 3; type(0, 'a(b(c)'); fault(0) = 6; type(0, 'a(b  '); fault(0) = 5;
            type(0, 'a(bcdefghijkl'); fault(0) = 13""");
        Calls.run("promise 10: errors of fault", """
            fault(0) = -3; finding() = 1; fault(4) = -1; fault(-1) = -1; findings(1) = 1; type(3, 'a'); fault(3) = -9;
            asked() = 0; put(3, 0, 98) = 1097""");
    }

    private static void documents() {
        Calls.run("promise 11: document", """
            type(0, ' a ( b c ( d ) ) '); document(0, 0) = 4; count(0) = 4; count(1) = 0; node(0, 0, 0); asked() = 98;
            node(0, 1, 0); asked() = 100; node(0, 2, 0); asked() = 99; node(0, 3, 0); asked() = 97; fault(0) = -9;
            put(0, 0, 32) = 1032; type(3, 'K'); document(1, 3) = 1; count(0) = 4; count(1) = 1; document(0, 3) = 1;
            count(0) = 1; node(0, 0, 0); asked() = 75""");
        Calls.run("promise 11: no change is recorded then, no state saved, the prices stay", """
            type(0, 'a(b)'); document(0, 0) = 2; price(1, 4) = 1; change(0, 0, 99) = 98; keep(0) = 2; keep(2) = 2;
            document(1, 0) = 2; count(10) = 0; count(13) = 0; count(8) = 4; undo(1) = -1; undo(0) = 0; on(0) = -3;
            on(2) = -3; node(0, 0, 0); asked() = 99; least() = 1""");
        Calls.run("promise 11: errors of document", """
            type(0, 'a(b)'); document(0, 0) = 2; price(0, 2) = 1; keep(1) = 1; document(2, 0) = -1; document(-1, 0) = -1;
            document(0, 4) = -1; document(0, -1) = -1; document(2, 3) = -1; finding() = 0; document(1, 3) = -3;
            finding() = 1; type(1, 'a('); document(0, 1) = -4; document(1, 1) = -4; count(0) = 2; count(1) = 0;
            count(10) = 1; count(13) = 1; findings(1) = 1; text(2, 0) = 0; document(0, 2) = -4; finding() = 1;
            findings(1) = 1; text(2, 1) = 1; document(0, 2) = -4; count(0) = 2""");
        Calls.run("promise 12: write", """
            write(0, 0) = -4; type(0, ' a ( b ( c d ) e ( f ( g ) ) ) '); document(0, 0) = 7; write(0, 1) = 15;
            spell(1, 'a(b(cd)e(f(g)))'); write(0, 0) = 15""");
        Calls.run("promise 12: write in place of what is there", """
            type(0, 'a(b(c(d(e(f(g(h(i(j(k(l)))))))))))'); document(1, 0) = 12; text(3, 60) = 60; write(1, 3) = 34;
            spell(3, 'a(b(c(d(e(f(g(h(i(j(k(l)))))))))))'); put(3, 34, 1) = -3; document(0, 3) = 12;
            type(2, 'R'); document(0, 2) = 1; write(0, 3) = 1; spell(3, 'R'); put(3, 1, 0) = -3; count(12) = 3""");
        Calls.run("promise 12: errors of write", """
            type(0, 'a'); document(0, 0) = 1; write(2, 0) = -1; write(-1, 0) = -1; write(0, 4) = -1; write(0, -1) = -1;
            write(1, 4) = -1; write(1, 1) = -4; count(12) = 1; finding() = 0""");
    }

    private static void nodes() {
        String tree = "type(0, 'a(b(cd)K(0)M)'); document(0, 0) = 7; price(0, 2) = 1; price(1, 5) = 1;";
        Calls.run("promise 13: the properties of an inner node", tree + """
            node(0, 2, 0) = 1; asked() = 98; node(0, 2, 1) = 1; asked() = 0; node(0, 2, 2) = 1; asked() = 0;
            node(0, 2, 3) = 1; asked() = 2; node(0, 2, 4) = 1; asked() = 6; node(0, 2, 5) = 1; asked() = 0;
            node(0, 2, 6) = 1; asked() = 1; node(0, 2, 7) = 1; asked() = 2; node(0, 2, 8) = 1; asked() = 5;
            node(0, 4, 0) = 1; asked() = 75; node(0, 4, 1) = 1; asked() = 3; node(0, 4, 2) = 1; asked() = 3;
            node(0, 4, 3) = 1; asked() = 1; node(0, 4, 4) = 1; asked() = 6; node(0, 4, 5) = 1; asked() = 1;
            node(0, 4, 6) = 1; asked() = 1; node(0, 4, 7) = 1; asked() = 6; node(0, 4, 8) = 1; asked() = 15""");
        Calls.run("promise 13: the properties of the root and of leaves", tree + """
            node(0, 6, 2) = 1; asked() = 0; node(0, 6, 3) = 1; asked() = 3; node(0, 6, 4) = 1; asked() = -9;
            node(0, 6, 5) = 1; asked() = 1; node(0, 6, 6) = 1; asked() = 1; node(0, 0, 4) = 1; asked() = 2;
            node(0, 0, 5) = 1; asked() = 0; node(0, 0, 6) = 1; asked() = 1; node(0, 1, 2) = 1; asked() = 1;
            node(0, 1, 5) = 1; asked() = 1; node(0, 1, 6) = 1; asked() = 0; node(0, 3, 5) = 1; asked() = 0;
            node(0, 3, 6) = 1; asked() = 0; node(0, 3, 3) = 1; asked() = 0; node(0, 5, 5) = 1; asked() = 1;
            node(0, 5, 6) = 1; asked() = 0; node(0, 5, 2) = 1; asked() = 5""");
        Calls.run("promise 13: the kinds and weights of labels", """
            price(0, 3) = 1; type(0, 'a(iAI09JRjr)'); document(1, 0) = 10; node(1, 9, 1); asked() = 0;
            node(1, 0, 1); asked() = 0; node(1, 1, 1); asked() = 1; node(1, 2, 1); asked() = 1; node(1, 3, 1); asked() = 2;
            node(1, 4, 1); asked() = 2; node(1, 5, 1); asked() = 3; node(1, 6, 1); asked() = 3; node(1, 7, 1); asked() = 4;
            node(1, 8, 1); asked() = 4; node(1, 0, 7); asked() = 3; node(1, 1, 7); asked() = 6; node(1, 2, 7); asked() = 6;
            node(1, 3, 7); asked() = 3; node(1, 5, 7); asked() = 9; node(1, 6, 8); asked() = 3; node(1, 8, 7); asked() = 3;
            node(1, 2, 8); asked() = 2; node(1, 0, 8); asked() = 1""");
        Calls.run("promise 13: errors of node", tree + """
            node(0, 7, 0) = -1; node(0, -1, 0) = -1; node(1, 0, 0) = -1; node(2, 0, 0) = -1; node(-1, 0, 0) = -1;
            node(0, 0, 9) = -1; node(0, 0, -1) = -1; node(0, 2147483647, 0) = -1; asked() = 0; finding() = 0""");
    }

    private static void marks() {
        String tree = "type(0, 'K(A(Bk(4)aJ)C)'); document(0, 0) = 8;";
        Calls.run("promise 14: Heads and Titles", tree + """
            mark(0, 7, 1) = 1; asked() = 4; mark(0, 5, 1) = 1; asked() = 2; mark(0, 0, 1) = 1; asked() = 0;
            mark(0, 4, 1) = 1; asked() = 0; mark(0, 7, 3) = 1; asked() = 0; mark(0, 4, 3) = 1; asked() = 2;
            mark(0, 5, 3) = -3; finding() = 3; mark(0, 3, 1) = -3; mark(0, 1, 1) = -3; mark(0, 2, 3) = -3;
            mark(0, 7, 2) = -3; mark(0, 7, 4) = -3; findings(3) = 6; asked() = 2""");
        Calls.run("promise 14: the ancestors of leftmost and of last nodes", """
            type(0, 'a(b(K(J)L)M)'); document(1, 0) = 6; mark(1, 0, 3) = 1; asked() = 3; mark(1, 1, 3) = 1; asked() = 2;
            mark(1, 2, 3) = 1; asked() = 2; mark(1, 4, 3) = 1; asked() = 1; type(0, 'a(bcdefghijkJ)'); document(1, 0) = 12;
            mark(1, 10, 3) = 1; asked() = 1; mark(1, 10, 1) = 1; asked() = 0""");
        Calls.run("promise 14: Words among 12 nodes", """
            type(0, '7'); document(0, 0) = 1; type(0, '7(66666666666)'); document(1, 0) = 12; mark(0, 0, 2) = 1;
            asked() = 1; change(0, 0, 54) = 55; mark(0, 0, 2) = 1; asked() = 11; mark(1, 0, 2) = 1; asked() = 1;
            mark(1, 11, 2) = 1; asked() = 0""");
        Calls.run("promise 14: Words and Notes", tree + """
            mark(0, 1, 2) = 1; asked() = 0; type(1, 'k(4k(44)k5)'); document(1, 1) = 7; mark(0, 1, 2) = 1; asked() = 3;
            mark(0, 2, 2) = 1; asked() = 3; mark(0, 2, 4) = 1; asked() = 5; mark(0, 1, 4) = -3; mark(0, 3, 2) = -3;
            mark(0, 3, 4) = -3; mark(1, 6, 4) = 1; asked() = 0; mark(1, 6, 2) = 1; asked() = 1; mark(1, 5, 2) = 1;
            asked() = 0; mark(1, 3, 4) = 1; asked() = 3; findings(3) = 3""");
        Calls.run("promise 14: errors of mark", tree + """
            mark(0, 8, 1) = -1; mark(0, -1, 1) = -1; mark(1, 0, 1) = -1; mark(2, 0, 1) = -1; mark(-1, 0, 1) = -1;
            mark(0, 0, 0) = -1; mark(0, 0, 5) = -1; mark(0, 3, 0) = -1; mark(0, 3, 5) = -1; finding() = 0; asked() = 0;
            mark(0, 3, 4) = -3; finding() = 3""");
    }

    private static void distances() {
        Calls.run("promise 15: least", """
            least() = -4; type(0, 'a(b(cd)e)'); document(0, 0) = 5; least() = -4; document(1, 0) = 5; least() = 0;
            type(1, 'a(cdb(e))'); document(1, 1) = 5; least() = 2; type(1, 'f(d(ac(b))e)'); document(1, 1) = 6;
            type(0, 'f(c(d(ab))e)'); document(0, 0) = 6; least() = 2; asked() = 0""");
        Calls.run("promise 15: only one document", "type(0, 'a'); document(1, 0) = 1; least() = -4; finding() = 0");
        Calls.run("promise 16: cost", """
            cost(0, 0) = -1; type(0, 'a(b(cd)0)'); document(0, 0) = 5; cost(0, 0) = -1; type(1, 'a(b(c)9)');
            document(1, 1) = 4; cost(4, 3) = 3; asked() = 0; cost(2, 1) = 1; asked() = 0; cost(3, 2) = 2; asked() = 3;
            cost(0, 0) = 0; asked() = 0; cost(1, 0) = 1; asked() = 1; cost(2, 2) = 4; asked() = 2; cost(5, 0) = -1;
            cost(0, 4) = -1; cost(-1, 0) = -1; cost(0, -1) = -1; asked() = 2; cost(4, 0) = 4; asked() = 1""");
    }

    private static void prices() {
        Calls.run("costs: relabelling by kinds", """
            price(2, 2) = 1; price(0, 9) = 1; price(1, 9) = 1; type(0, 'a(bAJ09kj1)'); document(0, 0) = 9;
            type(1, 'a(iBKM3r2jR)'); document(1, 1) = 10; cost(8, 9); asked() = 0; cost(0, 0); asked() = 2;
            cost(0, 1); asked() = 4; cost(1, 1); asked() = 2; cost(1, 2); asked() = 4; cost(2, 2); asked() = 2;
            cost(2, 1); asked() = 4; cost(3, 4); asked() = 6; cost(4, 4); asked() = 6; cost(3, 6); asked() = 4;
            cost(7, 6); asked() = 2; cost(7, 4); asked() = 4; cost(3, 5); asked() = 4; cost(5, 5); asked() = 2;
            cost(6, 7); asked() = 0; cost(5, 4); asked() = 4; cost(0, 5); asked() = 4; cost(0, 4); asked() = 4;
            cost(4, 6); asked() = 6""");
        Calls.run("promise 26: price", """
            price(0, 9) = 1; price(1, 5) = 1; price(2, 1) = -4; price(2, 2) = 1; count(7) = 9; count(8) = 5; count(9) = 2;
            price(0, 9) = -4; price(0, 1) = 9; count(10) = 4; price(3, 1) = -1; price(-1, 1) = -1; price(0, 0) = -1;
            price(0, 10) = -1; price(0, -1) = -1; count(10) = 4; type(0, 'a'); document(0, 0) = 1; type(0, 'B(aJ)');
            document(1, 0) = 3; least() = 5; price(0, 3) = 1; least() = 13; asked() = 0""");
        Calls.run("promise 26: price when 40 changes are recorded", FORTY_CHANGES + """
            price(0, 0) = -1; price(0, 1) = -4; price(0, 2) = -2; count(7) = 1; undo(39) = 1; count(7) = 2;
            price(0, 3) = 2; price(0, 1) = -2; count(7) = 3; count(10) = 40""");
    }

    private static void mappings() {
        Calls.run("promise 17: partner", """
            partner(0, 0) = -1; type(0, 'a(b(cd)e)'); document(0, 0) = 5; partner(0, 0) = -4; partner(1, 0) = -1;
            type(1, 'a(cd(fg))'); document(1, 1) = 5; partner(2, 0) = -1; partner(-1, 0) = -1; partner(0, 5) = -1;
            partner(0, -1) = -1; partner(1, 5) = -1; partner(0, 4) = 4; partner(1, 4) = 4""");
        Calls.run("promise 17: of several mappings the greatest partners of the last nodes", """
            type(0, 'a(b)'); document(0, 0) = 2; type(1, 'a(bbb)'); document(1, 1) = 4; least() = 2; partner(0, 0) = 2;
            partner(0, 1) = 3; partner(1, 0) = -9; partner(1, 1) = -9; partner(1, 2) = 0; partner(1, 3) = 1;
            turn() = 4; partner(0, 0) = -9; partner(0, 1) = -9; partner(0, 2) = 0; partner(1, 0) = 2""");
        Calls.run("promise 17: a partner is better than none at the same cost", """
            price(2, 1) = -4; type(0, 'a'); document(0, 0) = 1; type(0, '1'); document(1, 0) = 1; least() = 2;
            partner(0, 0) = 0; price(2, 2) = 1; least() = 2; partner(0, 0) = -9; partner(1, 0) = -9; count(4) = 0""");
        Calls.run("promise 17: a chain against a longer one", """
            type(0, 'a(a)'); document(0, 0) = 2; type(0, 'a(a(a(a)))'); document(1, 0) = 4; least() = 2; partner(0, 1) = 3;
            partner(0, 0) = 2; partner(1, 2) = 0; partner(1, 1) = -9; partner(1, 0) = -9""");
    }

    private static void steps() {
        Calls.run("promise 18: step", """
            step(0, 0) = -4; type(0, 'a(b(c)J1)'); document(0, 0) = 5; step(0, 0) = -4; step(-1, 0) = -1; step(0, 3) = -1;
            step(0, -1) = -1; type(1, 'b'); document(1, 1) = 1; step(-1, 0) = -1; step(0, 3) = -1; step(0, -1) = -1;
            asked() = 0; finding() = 0""");
        Calls.run("promise 18: deletions, relabellings, insertions, each in its order", """
            type(0, 'a(b(c)e(f))'); document(0, 0) = 5; type(1, 'g(cf0(5))'); document(1, 1) = 5; price(2, 3) = 1;
            price(1, 2) = 1; price(0, 3) = 1; least() = 13; count(3) = 5; count(4) = 3;
            step(0, 0) = 1; asked() = 0; step(0, 1) = 1; asked() = 1; step(0, 2) = 1; asked() = 2;
            step(1, 0) = 1; asked() = 0; step(1, 1) = 1; asked() = 3; step(1, 2) = 1; asked() = 2;
            step(2, 0) = 1; asked() = 1; step(2, 1) = 1; asked() = 4; step(2, 2) = 1; asked() = 3;
            step(3, 0) = 1; asked() = 2; step(3, 1) = 1; asked() = 3; step(3, 2) = 1; asked() = 3;
            step(4, 0) = 1; asked() = 2; step(4, 1) = 1; asked() = 2; step(4, 2) = 1; asked() = 3;
            step(5, 0) = -9; step(2147483647, 1) = -9; step(5, 3) = -1; step(-1, 0) = -1; asked() = 3""");
        Calls.run("promise 18: what Heads, Titles and digits cost", """
            price(2, 9) = 1; type(0, 'a(Ab)'); document(0, 0) = 3; type(1, 'a(bK(4))'); document(1, 1) = 4; count(3) = 3; least() = 6;
            step(0, 2) = 1; asked() = 2; step(1, 1) = 1; asked() = 2; step(1, 2) = 1; asked() = 3; step(2, 1) = 1;
            asked() = 1; step(2, 2) = 1; asked() = 1; type(0, 'a(15k)'); document(0, 0) = 4; type(0, 'a(28j)');
            document(1, 0) = 4; price(1, 9); price(2, 2); count(3) = 3; step(0, 0); asked() = 1; step(0, 1); asked() = 0;
            step(0, 2); asked() = 2; step(1, 1); asked() = 1; step(1, 2); asked() = 6; step(2, 1); asked() = 2;
            step(2, 2); asked() = 2""");
        Calls.run("promise 18: no steps between equal documents", """
            type(0, 'a(b)'); document(0, 0) = 2; document(1, 0) = 2; count(3) = 0; count(4) = 2; step(0, 0) = -9; asked() = 0""");
    }

    private static void sequences() {
        Calls.run("promise 19: behind", """
            behind(0, 0) = -4; type(0, 'a(b(cd)e)'); document(0, 0) = 5; behind(0, 0) = -4;
            type(1, 'f(c(g)J(de))'); document(1, 1) = 6; count(3) = 4; least() = 6; behind(0, 2) = 9; spell(2, 'a(b(cd)e)');
            behind(1, 2) = 6; spell(2, 'a(cde)'); behind(2, 2) = 6; spell(2, 'f(cde)'); behind(3, 2) = 9;
            spell(2, 'f(cJ(de))'); behind(4, 2) = 12; spell(2, 'f(c(g)J(de))'); put(2, 12, 0) = -3; behind(5, 2) = -6;
            behind(2147483647, 2) = -6; spell(2, 'f(c(g)J(de))'); count(12) = 3; write(0, 3) = 9; write(1, 3) = 12""");
        Calls.run("promise 19: behind as the first that is asked of two documents", """
            type(0, 'a(bc)'); document(0, 0) = 3; type(1, 'a(de)'); document(1, 1) = 3; behind(1, 2) = 5;
            spell(2, 'a(dc)'); change(1, 0, 98) = 100; behind(1, 2) = 5; spell(2, 'a(be)'); behind(2, 2) = -6;
            behind(0, 2) = 5; spell(2, 'a(bc)')""");
        Calls.run("promise 19: a deletion before relabellings, which keep to their nodes", """
            price(2, 2) = 1; price(0, 4) = 1; price(1, 4) = 1; type(0, 'a(bcd)'); document(0, 0) = 4; type(1, 'e(fd)');
            document(1, 1) = 3; least() = 8; count(3) = 3; partner(0, 1) = 0; behind(1, 2) = 5; spell(2, 'a(cd)');
            behind(2, 2) = 5; spell(2, 'a(fd)'); behind(3, 2) = 5; spell(2, 'e(fd)'); behind(0, 2) = 6; spell(2, 'a(bcd)')""");
        Calls.run("promise 19: several trees, and none", """
            price(2, 9) = 1; type(0, 'a(bc)'); document(0, 0) = 3; type(1, 'A(BC)'); document(1, 1) = 3; count(4) = 0;
            count(3) = 6; behind(0, 3) = 5; spell(3, 'a(bc)'); behind(1, 3) = 4; spell(3, 'a(c)'); behind(2, 3) = 1;
            spell(3, 'a'); behind(3, 3) = 0; put(3, 0, 0) = -3; finding() = 2; behind(4, 3) = 1; spell(3, 'A');
            behind(5, 3) = 4; spell(3, 'A(C)'); behind(6, 3) = 5; spell(3, 'A(BC)')""");
        Calls.run("promise 19: the root goes first, trees stand side by side", """
            price(2, 9) = 1; type(0, 'a(bc)'); document(0, 0) = 3; type(1, '1(bc)'); document(1, 1) = 3; count(3) = 2;
            behind(1, 0) = 2; spell(0, 'bc'); behind(2, 0) = 5; spell(0, '1(bc)'); fault(0) = -9""");
        Calls.run("promise 19: errors of behind", """
            type(0, 'a'); behind(-1, 0) = -1; behind(0, 4) = -1; behind(0, -1) = -1; document(0, 0) = 1; document(1, 0) = 1;
            behind(-1, 0) = -1; behind(0, 4) = -1; behind(1, 1) = -6; count(12) = 1; behind(0, 1) = 1; count(12) = 2""");
    }

    private static void works() {
        Calls.run("promise 20: work", """
            work(0) = -4; work(2) = -1; work(-1) = -1; type(0, 'a(b(cd)e)'); document(0, 0) = 5; work(1) = -4;
            type(1, 'a(bcd)'); document(1, 1) = 4; work(0) = 42; asked() = 9; work(1) = 54; asked() = 9;
            type(1, 'a(b(c))'); document(1, 1) = 3; work(0) = 21; asked() = 3; work(1) = 27; asked() = 3;
            work(2) = -1; asked() = 3; turn() = 3; work(1) = 27""");
    }

    private static void searches() {
        Calls.run("promise 21: nearest", """
            nearest(0, 0) = -1; type(0, 'a(b(c)b(c)1)'); document(0, 0) = 6; nearest(0, 0) = -4; type(1, 'b(c(b)4)');
            document(1, 1) = 4; nearest(0, 0) = 0; asked() = 1; nearest(0, 1) = 0; asked() = 1; nearest(0, 4) = 0;
            asked() = 2; nearest(1, 3) = 1; asked() = 2; nearest(1, 0) = 0; asked() = 1; nearest(1, 2) = 0; asked() = 2;
            nearest(0, 6) = -1; nearest(1, 4) = -1; nearest(0, -1) = -1; nearest(2, 0) = -1; nearest(-1, 0) = -1;
            asked() = 2""");
        Calls.run("promise 21: from document 0 to document 1 also for a node of document 1", """
            price(0, 5) = 1; type(0, 'a(b)'); document(0, 0) = 2; type(1, 'b(a)'); document(1, 1) = 2; nearest(1, 1) = 1;
            asked() = 2; nearest(0, 1) = 0; asked() = 1; nearest(1, 0) = 0; asked() = 1""");
        Calls.run("promise 21: all nodes of the other document are looked at", """
            type(0, 'a'); document(0, 0) = 1; type(0, 'A(BCDa)'); document(1, 0) = 5; nearest(0, 0) = 3; asked() = 0;
            nearest(1, 4) = 0; asked() = 8; turn() = 5; nearest(1, 0) = 3; asked() = 0; nearest(0, 3) = 0; asked() = 0;
            nearest(0, 4) = 0; asked() = 8""");
        Calls.run("promise 22: would", """
            would(0, 0, 97) = -1; type(0, 'a(b)'); document(0, 0) = 2; would(0, 0, 97) = -4; would(0, 0, 115) = -1;
            type(1, 'a(0)'); document(1, 1) = 2; would(0, 0, 49) = 1; asked() = 1; would(0, 0, 48) = 1; asked() = 0;
            would(0, 0, 98) = 1; asked() = 2; least() = 2; would(1, 0, 98) = 1; asked() = 0; would(1, 1, 75) = 1;
            asked() = 4; least() = 2; node(0, 0, 0); asked() = 98; node(1, 1, 0); asked() = 97; count(10) = 0;
            partner(0, 0) = 0; would(0, 2, 97) = -1; would(0, -1, 97) = -1; would(2, 0, 97) = -1; would(0, 0, 83) = -1;
            would(0, 0, 58) = -1; would(0, 0, 96) = -1; would(0, 0, 47) = -1; would(0, 0, 64) = -1; would(0, 0, 353) = -1;
            would(0, 0, -159) = -1; asked() = 97""");
    }

    private static void codes() {
        Calls.run("promise 23: change", """
            change(0, 0, 97) = -1; type(0, 'a(b)'); document(0, 0) = 2; change(0, 0, 82) = 98; change(0, 0, 82) = -4;
            change(0, 1, 114) = 97; write(0, 1) = 4; spell(1, 'r(R)'); count(10) = 2; change(0, 2, 97) = -1;
            change(0, -1, 97) = -1; change(1, 0, 97) = -1; change(2, 0, 97) = -1; change(0, 0, 115) = -1;
            change(0, 0, 83) = -1; change(0, 0, 40) = -1; change(0, 0, 32) = -1; change(0, 0, -1) = -1; count(10) = 2;
            document(1, 0) = 2; least() = 4; change(0, 0, 98) = 82; least() = 2; asked() = 0""");
        Calls.run("promise 23: change when 40 changes are recorded", FORTY_CHANGES + """
            change(0, 0, 98) = -4; change(0, 0, 81) = -2; change(0, 0, 83) = -1; node(0, 0, 0); asked() = 98;
            undo(39) = 1; change(0, 0, 81) = 98; change(0, 0, 82) = -2; count(10) = 40""");
    }

    private static void cuts() {
        Calls.run("promise 24: cut", """
            cut(0, 0) = -1; type(0, 'a(b(cd)e(f))'); document(0, 0) = 6; cut(0, 2) = 5; write(0, 1) = 9;
            spell(1, 'a(cde(f))'); cut(0, 4) = -4; cut(0, 0) = 4; cut(0, 0) = 3; write(0, 1) = 7; spell(1, 'a(e(f))');
            cut(0, 2) = 2; write(0, 1) = 4; spell(1, 'e(f)'); cut(0, 1) = 1; spell(1, 'e(f)'); cut(0, 0) = -4;
            cut(0, 1) = -1; cut(0, -1) = -1; cut(1, 0) = -1; cut(2, 0) = -1; cut(-1, 0) = -1; count(10) = 5; count(0) = 1;
            node(0, 0, 0); asked() = 102; node(0, 0, 4); asked() = -9""");
        Calls.run("promise 24: cut when 40 changes are recorded", FORTY_CHANGES + """
            cut(0, 3) = -1; cut(0, 2) = -4; cut(0, 0) = -2; count(0) = 3; undo(39) = 1; cut(0, 0) = 2; cut(0, 0) = -2;
            cut(0, 1) = -2; cut(1, 0) = -4; count(10) = 40""");
    }

    private static void additions() {
        Calls.run("promise 25: add a leaf", """
            add(0, 0, 0, 0, 97) = -1; type(0, 'a(b(cd)e)'); document(0, 0) = 5; add(0, 4, 0, 0, 65) = 0; write(0, 1) = 10;
            spell(1, 'a(Ab(cd)e)'); add(0, 5, 2, 0, 66) = 4; write(0, 1) = 11; spell(1, 'a(Ab(cd)Be)');
            add(0, 6, 4, 0, 67) = 6; write(0, 1) = 12; spell(1, 'a(Ab(cd)BeC)'); add(0, 1, 0, 0, 48) = 1; write(0, 1) = 15;
            spell(1, 'a(Ab(c(0)d)BeC)'); count(0) = 9; count(10) = 4""");
        Calls.run("promise 25: add above children", """
            type(0, 'a(b(cd)ef)'); document(0, 0) = 6; add(0, 5, 0, 2, 65) = 4; write(0, 1) = 13; spell(1, 'a(A(b(cd)e)f)');
            add(0, 2, 1, 1, 66) = 2; write(0, 1) = 16; spell(1, 'a(A(b(cB(d))e)f)'); add(0, 7, 0, 2, 67) = 7;
            write(0, 1) = 19; spell(1, 'a(C(A(b(cB(d))e)f))'); node(0, 7, 2); asked() = 0; node(0, 7, 3); asked() = 2;
            node(0, 8, 3); asked() = 1; add(0, 8, 1, 0, 68) = 8; write(0, 1) = 20; spell(1, 'a(C(A(b(cB(d))e)f)D)')""");
        Calls.run("promise 25: errors of add", """
            type(0, 'a(bc)'); document(0, 0) = 3; add(0, 3, 0, 0, 97) = -1; add(0, -1, 0, 0, 97) = -1; add(1, 0, 0, 0, 97) = -1;
            add(2, 0, 0, 0, 97) = -1; add(0, 2, -1, 0, 97) = -1; add(0, 2, 0, -1, 97) = -1; add(0, 2, 3, 0, 97) = -1;
            add(0, 2, 2, 1, 97) = -1; add(0, 2, 0, 3, 97) = -1; add(0, 2, 1, 2147483647, 97) = -1;
            add(0, 2, 2147483647, 1, 97) = -1; add(0, 2, 0, 0, 115) = -1; add(0, 0, 0, 1, 97) = -1; count(10) = 0;
            add(0, 2, 2, 0, 97) = 2; add(0, 3, 3, 0, 97) = 3; count(0) = 5""");
        Calls.run("promise 25: add to 12 nodes", """
            type(0, 'a(bcdefghijkl)'); document(0, 0) = 12; add(0, 0, 0, 0, 97) = -4; add(0, 11, 0, 11, 97) = -4;
            add(0, 11, 0, 12, 97) = -1; add(0, 0, 0, 0, 32) = -1; cut(0, 0) = 11; add(0, 10, 0, 10, 97) = 10;
            write(0, 0) = 16; spell(0, 'a(a(cdefghijkl))'); add(0, 0, 0, 0, 97) = -4; count(10) = 2""");
        Calls.run("promise 25: add when 40 changes are recorded", FORTY_CHANGES + """
            add(0, 2, 0, 3, 97) = -1; add(0, 2, 0, 2, 97) = -2; add(0, 2, 0, 2, 32) = -1; count(0) = 3; undo(39) = 1;
            add(0, 2, 0, 2, 97) = 2; count(0) = 4; add(0, 2, 0, 2, 97) = -2; count(10) = 40; turn() = -2;
            count(0) = 4""");
        Calls.run("promise 25: STATE before FULL", """
            type(0, 'a(bcdefghijkl)'); document(0, 0) = 12; document(1, 0) = 12; price(0, 2);"""
            + "turn(); turn(); turn();".repeat(13) + "add(0, 0, 0, 0, 97) = -4; cut(0, 0) = -2; count(10) = 40");
    }

    private static void turns() {
        Calls.run("promise 27: turn", """
            turn() = -4; type(0, 'a(b)'); document(0, 0) = 2; turn() = -4; type(1, 'K'); document(1, 1) = 1; turn() = 1;
            count(0) = 1; count(1) = 2; count(10) = 1; write(0, 2) = 1; spell(2, 'K'); write(1, 2) = 4; spell(2, 'a(b)');
            price(1, 5) = 1; least() = 3; turn() = 2; least() = 7; undo(0) = 3; write(0, 2) = 4; spell(2, 'a(b)');
            finding() = 0""");
        Calls.run("promise 27: turn when 40 changes are recorded", FORTY_CHANGES + """
            turn() = -2; count(0) = 3; undo(39) = 1; turn() = 1; turn() = -2; count(10) = 40""");
        Calls.run("promise 27: STATE before FULL", "price(0, 2); price(0, 1);".repeat(20) + "turn() = -4; price(0, 2) = -2");
    }

    private static void undoing() {
        Calls.run("promise 28: undo", """
            undo(0) = 0; undo(1) = -1; undo(-1) = -1; type(0, 'a(b(c))'); document(0, 0) = 3; document(1, 0) = 3;
            change(0, 0, 48) = 99; cut(0, 1) = 2; add(1, 0, 0, 0, 74) = 0; price(0, 4) = 1; turn() = 4; count(10) = 5;
            undo(6) = -1; undo(-1) = -1; undo(5) = 0; count(10) = 5; undo(4) = 1; count(0) = 2; count(7) = 4; undo(3) = 1;
            count(7) = 1; undo(2) = 1; count(1) = 3; undo(2) = 0; undo(3) = -1; undo(1) = 1; count(0) = 3; write(0, 1) = 7;
            spell(1, 'a(b(0))'); undo(0) = 1; write(0, 1) = 7; spell(1, 'a(b(c))'); least() = 0; count(10) = 0""");
        Calls.run("promise 28: undo several at once, and go on from there", """
            type(0, 'a(b)'); document(0, 0) = 2; document(1, 0) = 2; lots(20, 99); price(1, 7) = 1; undo(0) = 21;
            least() = 0; count(8) = 1; write(0, 1) = 4; spell(1, 'a(b)'); write(1, 1) = 4; spell(1, 'a(b)');
            change(1, 0, 99) = 98; change(1, 0, 100) = 99; change(1, 0, 101) = 100; undo(1) = 2; node(1, 0, 0);
            asked() = 99; least() = 1; undo(0) = 1; least() = 0; asked() = 99""");
    }

    private static void saving() {
        Calls.run("promise 29: keep, promise 30: on", """
            keep(0) = 0; count(13) = 1; type(0, 'a(b)'); document(0, 0) = 2; count(13) = 0; document(1, 0) = 2;
            change(0, 0, 99) = 98; keep(1) = 1; price(2, 6) = 1; cut(1, 0) = 1; keep(2) = 3; count(13) = 2; on(1) = 1;
            count(10) = 1; count(9) = 1; count(1) = 2; least() = 1; node(0, 0, 0); asked() = 99; on(2) = 3; count(9) = 6;
            count(1) = 1; undo(1) = 2; count(1) = 2; count(9) = 1; undo(0) = 1; node(0, 0, 0); asked() = 98; on(1) = 1;
            undo(0) = 1; node(0, 0, 0); asked() = 98; on(2) = 3; undo(2) = 1; count(1) = 2; count(9) = 6""");
        Calls.run("promise 29: keep in place of what the place has", """
            price(0, 2) = 1; keep(1) = 1; price(0, 3) = 2; keep(1) = 2; count(13) = 1; undo(0) = 2; count(7) = 1;
            on(1) = 2; count(7) = 3; keep(3) = -1; keep(-1) = -1; count(13) = 1; finding() = 0""");
        Calls.run("promise 29: what is done later does not reach a saved state", """
            type(0, 'a(b)'); document(0, 0) = 2; document(1, 0) = 2; change(0, 0, 99); keep(0) = 1; undo(0) = 1;
            change(0, 1, 100); change(0, 1, 101); on(0) = 1; write(0, 1) = 4; spell(1, 'a(c)'); undo(0) = 1;
            write(0, 1) = 4; spell(1, 'a(b)'); least() = 0""");
        Calls.run("promise 30: errors of on; a full record is restored", """
            on(0) = -3; finding() = 1; on(3) = -1; on(-1) = -1; findings(1) = 1; type(0, 'a'); document(0, 0) = 1;
            document(1, 0) = 1; lots(20, 4); lots(20, 5); keep(2) = 40; undo(0) = 40; on(1) = -3; on(2) = 40;
            price(0, 2) = -2; lots(1, 1) = -2; undo(40) = 0; undo(0) = 40; least() = 0; on(2) = 40""");
        Calls.run("promise 30: the state behind 40 changes", FORTY_CHANGES + """
            undo(39) = 1; change(0, 0, 100) = 98; keep(0) = 40; undo(0) = 40; node(0, 0, 0); asked() = 98; count(7) = 1;
            on(0) = 40; node(0, 0, 0); asked() = 100; count(7) = 2; undo(39) = 1; node(0, 0, 0); asked() = 98""");
    }

    private static void lots() {
        Calls.run("promise 31: the ranges of lots", """
            type(0, 'a'); document(0, 0) = 1; document(1, 0) = 1; lots(1, 0) = -1; lots(0, 1) = -1; lots(21, 1) = -1;
            lots(-1, 1) = -1; lots(1, 2147483647) = -1; lots(1, -1) = -1; lots(1, -2147483648) = -1; count(10) = 0;
            lots(1, 2147483646) = 2; lots(20, 2147483646); count(10) = 21; lots(20, 1) = -2; count(10) = 21; lots(19, 1);
            count(10) = 40; lots(1, 1) = -2; lots(21, 1) = -1; lots(1, 0) = -1; asked() = 0; finding() = 0""");
        Calls.run("promise 31: STATE before FULL", """
            lots(1, 1) = -4; type(0, 'a'); document(0, 0) = 1; lots(20, 1) = -4; lots(21, 1) = -1; lots(1, 0) = -1;"""
            + "price(0, 2); price(0, 1);".repeat(20) + "lots(1, 1) = -4; count(10) = 40");
        for (int seed = 1; seed < 400; seed++) {
            oneLot(seed);
            fullLot(seed);
        }
    }

    /** A single change of lots(), worked out here by the document's words. */
    private static void oneLot(int seed) {
        long z = 48271L * seed % 2147483647L;
        int d = (int) (z / 2 % 2);
        String[] due = {"A(BC)", "D(E(F))"};
        if (z % 8 == 7) {
            due = new String[] {due[1], due[0]};
        } else {
            due[d] = after(z, d, (int) (z / 64 % 3));
        }
        int nodes = (due[0] + due[1]).replaceAll("[()]", "").length();
        Calls.run("promise 31: one change from " + seed, "type(0, 'A(BC)'); document(0, 0) = 3; type(0, 'D(E(F))');"
            + "document(1, 0) = 3; lots(1, " + seed + ") = " + nodes + "; count(10) = 1;"
            + "write(0, 1) = " + due[0].length() + "; spell(1, '" + due[0] + "');"
            + "write(1, 1) = " + due[1].length() + "; spell(1, '" + due[1] + "');"
            + "undo(0) = 1; write(0, 1) = 5; spell(1, 'A(BC)'); write(1, 1) = 7; spell(1, 'D(E(F))')");
    }

    /** Nothing can be added to 12 nodes, and the only node cannot be deleted; both are recorded. */
    private static void fullLot(int seed) {
        long z = 48271L * seed % 2147483647L;
        if (z % 8 == 6) {
            Calls.run("promise 31: no room from " + seed, "type(0, 'a(bcdefghijkl)'); document(0, 0) = 12;"
                + "document(1, 0) = 12; lots(1, " + seed + ") = 24; count(10) = 1; least() = 0; undo(0) = 1");
        } else if (z % 8 == 4 || z % 8 == 5) {
            Calls.run("promise 31: the only node, from " + seed, "type(0, 'a'); document(0, 0) = 1; document(1, 0) = 1;"
                + "lots(1, " + seed + ") = 2; count(10) = 1; least() = 0; undo(0) = 1");
        } else if (z % 8 <= 3) {
            long letter = 97 + z / 1024 % 18;
            Calls.run("promise 31: the only node, from " + seed, "type(0, 'A'); document(0, 0) = 1; document(1, 0) = 1;"
                + "lots(1, " + seed + ") = 2; node(" + z / 2 % 2 + ", 0, 0); asked() = " + letter);
        }
    }

    private static String after(long z, int d, int x) {
        if (z % 8 <= 3) {
            String tree = d == 0 ? "A(BC)" : "D(E(F))";
            char code = d == 0 ? "BCA".charAt(x) : "FED".charAt(x);
            return tree.replace(code, (char) (97 + z / 1024 % 18));
        }
        if (z % 8 <= 5) {
            return d == 0 ? new String[] {"A(C)", "A(B)", "A(BC)"}[x] : new String[] {"D(E)", "D(F)", "E(F)"}[x];
        }
        String[] more = d == 0 ? new String[] {"A(B(+)C)", "A(BC(+))", "A(+BC)"}
            : new String[] {"D(E(F(+)))", "D(E(+F))", "D(+E(F))"};
        return more[x].replace('+', (char) (48 + z / 1024 % 10));
    }

    private static void told() {
        Calls.run("promise 32: asked", """
            asked() = 0; row(0, 2) = 2; asked() = 0; lay(0, 0, 5) = 1; asked() = 0; lay(0, 0, 6) = 1; asked() = 5;
            at(0, 0) = 1; asked() = 6; at(0, 9) = -3; asked() = 6; mean(0) = 1; asked() = 3; mean(1) = -3; asked() = 3;
            type(0, 'K(ab)'); document(0, 0) = 3; document(1, 0) = 3; asked() = 3; node(0, 2, 0) = 1; asked() = 75;
            mark(0, 2, 3) = 1; asked() = 0; node(0, 0, 0) = 1; mark(0, 0, 1) = -3; asked() = 97; cost(0, 1) = 1;
            asked() = 1; work(0) = 16; asked() = 4; least() = 0; asked() = 4; partner(0, 0) = 0; asked() = 4;
            step(0, 0) = -9; asked() = 4; would(0, 2, 97) = 1; asked() = 2; nearest(0, 0) = 0; asked() = 0;
            would(0, 0, 99) = 1; asked() = 1; change(0, 0, 99) = 97; asked() = 1; step(0, 0) = 1; asked() = 1;
            step(0, 1) = 1; asked() = 0; count(0) = 3; digest(); finding() = 3; findings(3) = 1; asked() = 0;
            node(0, 2, 4) = 1; asked() = -9; asked() = -9; undo(0) = 1; keep(0) = 0; on(0) = 0; turn() = 3; asked() = -9""");
    }

    private static void counts() {
        Calls.run("promise 33: count", """
            type(0, 'a(b(cd)e)'); document(0, 0) = 5; count(0) = 5; count(1) = 0; count(2) = -1; count(3) = -1;
            count(4) = -1; count(5) = 3; count(6) = 0; type(1, 'a(b)'); document(1, 1) = 2; count(1) = 2; count(6) = 1;
            count(2) = 3; count(3) = 3; count(4) = 2; price(0, 2); price(1, 3); price(2, 4); count(7) = 2; count(8) = 3;
            count(9) = 4; count(10) = 3; count(2) = 9; row(5, 0); row(0, 1); row(0, 2); count(11) = 2; text(3, 0);
            count(12) = 3; tear(0); count(11) = 1; keep(2); count(13) = 1; keep(0); keep(0); count(13) = 2;
            count(14) = -1; count(-1) = -1; count(2147483647) = -1; count(-2147483648) = -1; asked() = 0; finding() = 0""");
    }

    private static void findings() {
        Calls.run("promise 34: finding, promise 35: findings", """
            finding() = 0; findings(0) = -1; findings(6) = -1; findings(-1) = -1; findings(2147483647) = -1;
            tear(0) = -3; finding() = 1; row(0, 0) = 0; at(0, 0) = -3; finding() = 2; mean(0) = -3; finding() = 4;
            row(0, -1) = -3; finding() = 5; type(0, 'a'); document(0, 0) = 1; mark(0, 0, 1) = -3; finding() = 3;
            row(9, 9) = -1; finding() = 3; least() = -4; finding() = 3; tear(0) = 1; finding() = 3; tear(0) = -3;
            finding() = 1; findings(1) = 2; findings(2) = 1; findings(3) = 1; findings(4) = 1; findings(5) = 1;
            on(0) = -3; findings(1) = 3; mark(0, 0, 2) = -3; mark(0, 0, 3) = -3; findings(3) = 3; finding() = 3""");
    }

    private static void digests() {
        Calls.run("promise 36: digest of a new object", "digest() = " + hash(0, 0, -1, -1, -1, 0, 0, 1, 1, 1, 0, 0, 0, 0,
            -1, -1, -1, -1, -1, -1, -1, -1, -1, -1, -1, -1, -1));
        Calls.run("promise 36: digest of one document, a row, a text and a saved state", """
            type(2, 'a(b)'); document(1, 2) = 2; price(1, 3) = 1; keep(1) = 1; row(4, 2) = 2; lay(4, 1, -7) = 1;
            text(2, 1) = 1; put(2, 0, -3) = 1032; asked() = 0; digest() = """ + " "
            + hash(0, 2, -1, -1, -1, 0, 1, 1, 3, 1, 1, 1, 1, 1, 98, 0, 1, -1, 97, 0, -9, -1,
            -1, 1, -1, -1, -1, -1, -1, 2, 0, -7, -1, -1, -1, 1, -3, -1));
        Calls.run("promise 36: digest of two documents", """
            type(0, 'a(b)'); document(0, 0) = 2; type(0, 'a'); document(1, 0) = 1; digest() = """ + " "
            + hash(2, 1, 1, 1, 1, 1, 1, 1, 1, 1, 0, 0, 1, 0, 98, 0, 1, -9, 97, 0, -9, 0, 97, 0, -9, 1,
            -1, -1, -1, -1, -1, -1, -1, -1, -1, 1, 97, -1, -1, -1));
        Calls.run("promise 36: digest of leftmost nodes", """
            type(0, 'a(bc(d))'); document(0, 0) = 4; digest() = """ + " "
            + hash(4, 0, -1, -1, -1, 2, 0, 1, 1, 1, 0, 0, 1, 0, 98, 0, 3, -1, 100, 1, 2, -1, 99, 1, 3, -1, 97, 0, -9, -1,
            -1, -1, -1, -1, -1, -1, -1, -1, -1, 8, 97, 40, 98, 99, 40, 100, 41, 41, -1, -1, -1));
        Calls.run("promise 36: digest changes nothing", """
            type(0, 'a(b)'); document(0, 0) = 2; node(0, 0, 0); asked() = 98; digest(); asked() = 98; count(10) = 0""");
    }

    private static long hash(int... values) {
        long h = 17;
        for (int v : values) {
            h = 31 * h + v;
        }
        return h;
    }
}
