import java.io.IOException;
import java.nio.file.Files;
import java.nio.file.Path;
import java.util.ArrayList;
import java.util.List;

/**
 * Writes the class again with a limit: its objects throw at their 513th call, and in
 * toString, equals and hashCode. The document leaves free what these answer, so every
 * test must pass with this class as it does with the true one.
 * "Limit AlmanacHouse.java limited/AlmanacHouse.java"
 */
public final class Limit {
    private static final String CLASS = "public final class AlmanacHouse {";
    private static final String CALL = " {4}public (int|double) \\w+\\(.*\\) \\{";
    private static final int CALLS_OF_THE_FACE = 38;

    private static final String LIMIT = """
            private int timesUsed;
            private void useOnce() {
                timesUsed++;
                if (timesUsed > %d) {
                    throw new IllegalStateException("used up");
                }
            }
            @Override public String toString() {
                throw new IllegalStateException("toString is free");
            }
            @Override public boolean equals(Object other) {
                throw new IllegalStateException("equals is free");
            }
            @Override public int hashCode() {
                throw new IllegalStateException("hashCode is free");
            }
        """.formatted(House.MOST_CALLS);

    public static void main(String[] args) throws IOException {
        List<String> limited = new ArrayList<>();
        int calls = 0;
        for (String line : Files.readAllLines(Path.of(args[0]))) {
            limited.add(line);
            if (line.equals(CLASS)) {
                limited.add(LIMIT);
            }
            if (line.matches(CALL)) {
                limited.add("        useOnce();");
                calls++;
            }
        }
        Files.write(Path.of(args[1]), limited);
        if (calls != CALLS_OF_THE_FACE) {
            System.out.println("Limit: " + calls + " calls of the face were found, not " + CALLS_OF_THE_FACE);
            System.exit(1);
        }
    }
}
