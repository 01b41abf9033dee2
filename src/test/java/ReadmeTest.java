import java.io.IOException;
import java.nio.file.Files;
import java.nio.file.Path;

/** The example in README.md: that it stands here word for word, and that it answers what its comments say. */
final class ReadmeTest {
    private ReadmeTest() {
    }

    public static void main(String[] args) throws IOException {
        example();
        sameAsReadme();
        Check.finish();
    }

    static int tell(GrainInn x, int sort, String text) {
        for (int from = 0; from < text.length(); from += 20) {
            int[] n = new int[5];
            for (int i = 0; i < 20; i++) {
                int sign = from + i < text.length() ? text.charAt(from + i) : ' ';
                n[i / 4] = n[i / 4] << 8 | sign;
            }
            x.feed(n[0], n[1], n[2], n[3], n[4]);
        }
        x.end(text.length());
        return x.text(sort, GrainInn.NONE);
    }

    private static void example() {
        GrainInn x = new GrainInn();
        int inn = tell(x, 0, "table 2 3 1; table 2 2 0; guests 3; love 0 1; quarrel 0 2;");
        int evenings = tell(x, 1, "sit 0 1; say 1 7; night; sit 0 0 2;");
        int wishes = tell(x, 2, "hear 0 7; apart 0 2;");

        int stop = x.stop(inn, evenings);                    // 4: all four deeds can be
        int joy = x.state(inn, evenings, 4, 2);              // 1: guest 0 sits where guest 1 sat, whom he loves
        int heard = x.guest(inn, evenings, 4, 2, 0);         // 128: guest 2 has heard the word 7 (bit 7)
        int debt = x.guest(inn, evenings, 4, 0, 10 + 1);     // 1: guest 0 paid for the ghost of guest 1
        int first = x.comes(inn, evenings, 3, 0, 7, 0);      // 1: the word 7 comes round at the next sitting
        int ways = x.seats(inn, evenings, 3, wishes, 2);     // 2: so many seatings fulfil all wishes
        int table = x.seats(inn, evenings, 3, wishes, 10 + 1);   // 1: where guest 1 sits in the best of them

        int broken = tell(x, 0, "table 2 3;");               // NONE: the price is missing
        int fault = x.fault(0);                              // 1: no text goes on so
        int place = x.fault(1);                              // 9: from the byte 9 on

        Check.due("number of the inn", inn, 0);
        Check.due("number of the evenings", evenings, 0);
        Check.due("number of the wishes", wishes, 0);
        Check.due("stop", stop, 4);
        Check.due("joy", joy, 1);
        Check.due("heard", heard, 128);
        Check.due("debt", debt, 1);
        Check.due("first", first, 1);
        Check.due("ways", ways, 2);
        Check.due("table", table, 1);
        Check.due("broken", broken, GrainInn.NONE);
        Check.due("fault", fault, 1);
        Check.due("place", place, 9);
    }

    private static void sameAsReadme() throws IOException {
        String here = Files.readString(Path.of("src/test/java/ReadmeTest.java"));
        boolean inside = false;
        int lines = 0;
        for (String line : Files.readAllLines(Path.of("README.md"))) {
            if (line.startsWith("```")) {
                inside = line.equals("```java");
            } else if (inside && !line.isBlank()) {
                lines++;
                Check.due("the example's line '" + line + "' stands here", here.contains(" " + line + "\n"), true);
            }
        }
        Check.due("README.md has an example", lines > 20, true);
    }
}
