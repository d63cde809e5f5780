import java.io.IOException;
import java.nio.file.Files;
import java.nio.file.Path;
import java.util.ArrayList;
import java.util.List;

/** What README.md tells: its example's answers, each call of the face and each test. */
public final class ReadmeTest {
    private static final Check CHECK = new Check("ReadmeTest");

    public static void main(String[] args) throws IOException {
        example();
        String text = Files.readString(Path.of("README.md"));
        tellsEachLineOfTheExample(text);
        for (java.lang.reflect.Method method : WhatToRead.class.getDeclaredMethods()) {
            if (java.lang.reflect.Modifier.isPublic(method.getModifiers())) {
                CHECK.same("README.md tells " + method.getName(), text.contains("| `" + method.getName() + "("), true);
            }
        }
        for (String test : tests()) {
            CHECK.same("README.md tells " + test, text.contains("| " + test + " |"), true);
        }
        CHECK.end();
    }

    private static void example() {
        WhatToRead x = new WhatToRead();
        int letters = x.topic(3, 0);
        int words = x.topic(2, 1 << letters);
        CHECK.same("letters", letters, 0);
        CHECK.same("words", words, 1);
        CHECK.same("piece 0", x.piece(0, 0, 1 << letters, 1 << letters, 30), 0);
        CHECK.same("piece 1", x.piece(1 << letters, 0, 1 << words, 0, 20), 1);
        CHECK.same("way", x.way(1 << words), 60);
        CHECK.row("way", x, 1, 2);
        CHECK.same("lay", x.lay(0), 0);
        CHECK.same("most", x.most(59), 3);
        CHECK.same("shortens", x.shortens(1, 1 << words), -2);
        CHECK.same("question", x.question(), 0);
        CHECK.same("answer", x.answer(letters, true), 2);
        CHECK.same("settle", x.settle(), 1);
        CHECK.same("way then", x.way(1 << words), 40);
    }

    private static void tellsEachLineOfTheExample(String text) {
        String[] calls = {
            "x.topic(3, 0);", "x.topic(2, 1 << letters);", "x.piece(0, 0, 1 << letters, 1 << letters, 30);",
            "x.piece(1 << letters, 0, 1 << words, 0, 20);", "x.way(1 << words);", "x.lay(0);", "x.most(59);",
            "x.shortens(1, 1 << words);", "x.question();", "x.answer(letters, true);", "x.settle();",
        };
        for (String call : calls) {
            CHECK.same("README.md tells " + call, text.contains(call), true);
        }
    }

    private static List<String> tests() throws IOException {
        List<String> names = new ArrayList<>();
        try (var files = Files.newDirectoryStream(Path.of("src/test/java"), "*Test.java")) {
            for (Path file : files) {
                names.add(file.getFileName().toString().replace(".java", ""));
            }
        }
        return names;
    }
}
