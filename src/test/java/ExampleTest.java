/** The four examples of the document, word by word. */
public final class ExampleTest {
    public static void main(String[] args) {
        Calls.run("example 1", """
            text(0, 4) = 4; put(0, 0, 97) = 1032; put(0, 1, 40) =
            1032; put(0, 2, 98) = 1032; put(0, 3, 41) = 1032; document(0, 0) = 2; text(0, 1) = 1; put(0, 0, 97) = 1032;
            document(1, 0) = 1; least() = 1; step(0, 1) = 1; asked() = 0; partner(0, 1) = 0; partner(0, 0) = -9; behind(1, 1) =
            1; node(0, 0, 4) = 1""");
        Calls.run("example 2", """
            text(1, 4) = 4; put(1, 0, 75) = 1032; put(1, 1, 40) = 1032;
            put(1, 2, 51) = 1032; put(1, 3, 41) = 1032; document(0, 1) = 2; node(0, 1, 7) = 1; asked() = 3; mark(0, 1, 1) = 1;
            asked() = 0; mark(0, 0, 4) = -3; finding() = 3; least() = -4; cut(0, 1) = 1; cut(0, 0) = -4; count(2) = -1""");
        Calls.run("example 3", """
            mean(0) = -3; row(0, 0) = 0; mean(0) = -3; finding() = 4; findings(4) = 1;
            row(1, -1) = -3; copy(0, 0, 0, 1, 0) = -3; copy(0, 0, 2, 0, 0) = -3; tear(2) = -3; lay(0, 0, 1) = -3; price(2, 1) =
            -4; price(2, 5) = 1; undo(0) = 1; on(0) = -3; lots(1, 5) = -4; turn() = -4""");
        Calls.run("example 4", """
            text(2, 3) = 3; put(2, 0, 97) = 1032; put(2, 1, 40) = 1032;
            put(2, 2, 41) = 1032; fault(2) = 2; text(2, 3) = 3; put(2, 0, 32) = 1032; put(2, 1, 97) = 1032; put(2, 2, 32) =
            1032; fault(2) = -9; document(1, 2) = 1; add(1, 0, 0, 0, 65) = 0; write(1, 0) = 4; add(1, 1, 1, 1, 65) = -1;
            keep(0) = 1; count(5) = 0""");
        Calls.end("ExampleTest");
    }
}
