import java.io.IOException;
import java.nio.file.DirectoryStream;
import java.nio.file.Files;
import java.nio.file.Path;

/** What README.md shows is what the class does. */
final class ReadmeTest {
    private static final String SHOWN = "@set high 9\n= The press\nInk\\index{ink} is rolled\\note{By hand.} on the type.\n\n"
        + "# damp the sheet\\label{damp}\n# pull, as after \\ref{damp}\n@index\n";

    public static void main(String[] args) throws IOException {
        String readme = Files.readString(Path.of("README.md"));
        String told = readme.replace("\"\n            + \"", "");
        Desk.same("the manuscript is shown", true, told.contains(SHOWN.replace("\\", "\\\\").replace("\n", "\\n")));
        Desk desk = new Desk();
        Desk.same("its lines", 7, desk.write(SHOWN));
        Desk.same("its fault", 0, desk.room.set());
        StringBuilder out = new StringBuilder();
        for (int page = 0; page < desk.room.pages(); page++) {
            out.append(desk.page(page).replace('/', '\n')).append("== end of page ").append(page).append('\n');
        }
        Desk.same("what it prints is shown", true, readme.contains("```text\n" + out + "```"));
        try (DirectoryStream<Path> tests = Files.newDirectoryStream(Path.of("src/test/java"), "*Test.java")) {
            for (Path test : tests) {
                String name = test.getFileName().toString().replace(".java", "");
                Desk.same("names " + name, true, readme.contains("`" + name + "`"));
            }
        }
        Desk.close();
    }
}
