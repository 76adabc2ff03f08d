import java.io.IOException;
import java.nio.file.Files;
import java.nio.file.Path;
import java.util.ArrayList;
import java.util.List;

/** What README.md shows: each call behind which it tells an answer, in its order. */
public final class ReadmeTest {
    private static final String MARK = "// ";

    private final List<String> shown = new ArrayList<>();
    private int next = 0;
    private int wrong = 0;

    public static void main(String[] args) throws IOException {
        ReadmeTest test = new ReadmeTest();
        test.gather(Files.readAllLines(Path.of("README.md")));
        test.walk();
        if (test.next != test.shown.size()) {
            test.wrong++;
            System.out.println("README.md shows " + test.shown.size() + " answers, asked were " + test.next);
        }
        System.out.println(test.wrong == 0 ? test.next + " answers are as shown" : test.wrong + " are not");
        if (test.wrong != 0) {
            System.exit(1);
        }
    }

    private void gather(List<String> lines) {
        for (String line : lines) {
            if (line.startsWith("sun.") && line.contains(MARK)) {
                shown.add(line);
            }
        }
    }

    /** The next line must be this call, with this answer. */
    private void due(String call, long answer) {
        String line = next < shown.size() ? shown.get(next) : "nothing";
        next++;
        String told = line.substring(line.indexOf(MARK) + MARK.length());
        if (!line.startsWith("sun." + call + ";") || !told.startsWith(answer + ":")) {
            wrong++;
            System.out.println("README.md shows: " + line + "; " + call + " answers " + answer);
        }
    }

    private void walk() {
        FollowTheSun sun = new FollowTheSun();
        due("office(24 * 0 + 9, 8, 10, 64 * 1 + 1)", sun.office(24 * 0 + 9, 8, 10, 64 * 1 + 1));
        due("office(24 * 12 + 9, 8, 5, 64 * 2 + 3)", sun.office(24 * 12 + 9, 8, 5, 64 * 2 + 3));
        due("piece(6 * 60 + 0, 10, 0, 0, FollowTheSun.NONE)", sun.piece(6 * 60 + 0, 10, 0, 0, FollowTheSun.NONE));
        due("overlap(0, 1, 0)", sun.overlap(0, 1, 0));
        due("loses(0, 1, 0)", sun.loses(0, 1, 0));
        sun.begin(9);
        due("ends()", sun.ends());
        due("row(3)", sun.row(3));
        due("one(0, 9, 1)", sun.one(0, 9, 1));
        due("row(1)", sun.row(1));
        due("cheap(0, 9, 1, 100)", sun.cheap(0, 9, 1, 100));
        due("edge(0, 9, 1)", sun.edge(0, 9, 1));
        due("sign('9' << 24 | '9' << 16 | '-' << 8 | 'r')", sun.sign('9' << 24 | '9' << 16 | '-' << 8 | 'r'));
        due("rule()", sun.rule());
        due("value(0, 1)", sun.value(0, 1));
        due("ends()", sun.ends());
        sun.keep(0);
        due("go(8)", sun.go(8));
        due("of(0, 0)", sun.of(0, 0));
        due("of(0, 1)", sun.of(0, 1));
        due("mean(5)", sun.mean(5));
        sun.again(0);
        due("count(2)", sun.count(2));
        due("pair(0, 1, 10)", sun.pair(0, 1, 10));
        due("whom(20, 9)", sun.whom(20, 9));
        due("site(8, 64 * 1 + 1, 9, 9)", sun.site(8, 64 * 1 + 1, 9, 9));
        due("together(0, 9)", sun.together(0, 9));
        due("sleeps(1, 1)", sun.sleeps(1, 1));
        due("march(1, 0)", sun.march(1, 0));
        due("open(2, 0)", sun.open(2, 0));
    }
}
