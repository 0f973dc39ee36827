import java.nio.charset.StandardCharsets;
import java.nio.file.Files;
import java.nio.file.Path;
import java.util.List;
import java.util.Set;
import java.util.regex.Matcher;
import java.util.regex.Pattern;

/** Rules of LANGUAGE.md that can be seen in the text of the program; run from the root of the checkout. */
public final class RulesTest {
  private static final Path PROGRAM = Path.of("src/main/java/Shortsign.java");
  private static final Set<String> IMPORTS =
      Set.of("java.util.ArrayList", "java.util.List", "java.util.NoSuchElementException", "java.util.Arrays");
  private static final String[] NOWHERE = {
    "\\btry\\b", "\\bcatch\\b", "\\bfinally\\b", "\\bsynchronized\\b", "\\bassert\\b", "->", "::", "\\bgoto\\b",
    "static \\{", "\\bSystem\\.(?!arraycopy)", "\\bThread\\b", "\\bRandom\\b", "\\bObject\\b", "\\bprotected\\b",
    "Exact\\(", "^package\\b", "\\bMath\\.(?!max|min|abs|floorDiv|floorMod)", "\\bequals\\(", "\\bhashCode\\(",
    "\\btoString\\(", "M(AX|IN)_VALUE"
  };

  private static int wrong = 0;

  private static void need(boolean so, String what) {
    if (!so) {
      wrong++;
      System.out.println(what);
    }
  }

  private static String withoutComments(String program) {
    return program.replaceAll("(?s)/\\*.*?\\*/", "").replaceAll("//[^\n]*", "");
  }

  private static void methodsAreShort(List<String> lines) {
    int begun = -1;
    for (int i = 0; i < lines.size(); i++) {
      String line = lines.get(i);
      boolean head = line.matches(" {4}(?: {4})?\\w.*\\(.*") && !line.trim().endsWith(";");
      if (head) begun = i;
      if (begun >= 0 && line.matches(" {4}(?: {4})?\\}")) {
        need(i - begun <= 60, "a long method at line " + (begun + 1));
        begun = -1;
      }
    }
  }

  public static void main(String[] args) throws Exception {
    String whole = Files.readString(PROGRAM, StandardCharsets.UTF_8);
    String program = withoutComments(whole);
    for (char sign : whole.toCharArray()) need(sign < 128, "a sign beyond 127 in the program");
    for (String pattern : NOWHERE) {
      need(!Pattern.compile(pattern, Pattern.MULTILINE).matcher(program).find(), "the program holds " + pattern);
    }
    Matcher imports = Pattern.compile("import ([^;]+);").matcher(program);
    while (imports.find()) need(IMPORTS.contains(imports.group(1)), "the program imports " + imports.group(1));
    String thrown = "throw new (IllegalStateException|IllegalArgumentException|IndexOutOfBoundsException"
        + "|ArithmeticException|UnsupportedOperationException|NoSuchElementException|RuntimeException)"
        + "\\((\"[^\"]*\")?\\);";
    need(Pattern.compile("\\bthrow\\b").matcher(program).results().count()
        == Pattern.compile(thrown).matcher(program).results().count(), "a throw of another form");
    need(Pattern.compile("\\bclass\\b").matcher(program).results().count() <= 12, "more than 12 classes");
    methodsAreShort(List.of(whole.split("\n")));
    System.out.println(wrong == 0 ? "the rules are kept" : wrong + " faults by the rules");
    if (wrong != 0) System.exit(1);
  }
}
