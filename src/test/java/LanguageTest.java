import java.lang.reflect.Field;
import java.lang.reflect.Method;
import java.lang.reflect.Modifier;
import java.nio.file.Files;
import java.nio.file.Path;
import java.util.ArrayList;
import java.util.List;
import java.util.Set;
import java.util.TreeSet;
import java.util.regex.Matcher;
import java.util.regex.Pattern;

/** The rules of LANGUAGE.md that can be looked up in the source or in the compiled class. */
public final class LanguageTest {
  private static final String FACE = "BAD NOT FULL NONE NULL CAST INDEX SIZE "
      + "link/3 cut/2 like/3 manner/2 bar/2 domains/1 told/3 own/2 way/2 why/1 count/1 type/1 read/0 "
      + "turn/0 choose/1 rest/0 clear/0 foreseen/1 stable/2 ring/1 fail/3 seen/1 "
      + "drift/1 undo/0 seed/1 image/0 restore/0 tried/3 film/3 sheet/3 drop/1 item/4 copy/5";
  private static int wrong = 0;

  private static void ask(boolean holds, String rule) {
    if (holds) return;
    wrong++;
    System.out.println("not so: " + rule);
  }

  /** Without comments, texts and signs. */
  private static String bare(String source) {
    return source.replaceAll("(?s)/\\*.*?\\*/", " ").replaceAll("//[^\n]*", " ")
        .replaceAll("\"(\\\\.|[^\"\\\\])*\"", "\"\"").replaceAll("'(\\\\.|[^'\\\\])'", "'x'");
  }

  private static void face() {
    Class<?> c = PolicyRoutes.class;
    Set<String> due = new TreeSet<>(List.of(FACE.split(" "))), seen = new TreeSet<>();
    Set<String> publicNames = new TreeSet<>();
    for (Field f : c.getDeclaredFields()) {
      if (Modifier.isPublic(f.getModifiers())) seen.add(f.getName());
      ask(Modifier.isPublic(f.getModifiers()) || Modifier.isPrivate(f.getModifiers()), "1: field " + f.getName());
    }
    for (Method m : c.getDeclaredMethods()) {
      if (!Modifier.isPublic(m.getModifiers())) continue;
      seen.add(m.getName() + "/" + m.getParameterCount());
      publicNames.add(m.getName());
      ask(m.getReturnType() == (m.getName().equals("fail") ? long.class : int.class), "1: what is answered by " + m.getName());
      for (int k = 0; k < m.getParameterCount(); k++)
        ask(m.getParameterTypes()[k] == (m.getName().equals("item") && k == 3 ? long.class : int.class), "1: " + m.getName());
    }
    ask(seen.equals(due), "1: the face is " + due + ", seen is " + seen);
    ask(c.getDeclaredConstructors().length == 1 && c.getConstructors().length == 1, "1: one public constructor");
    ask(Modifier.isFinal(c.getModifiers()), "1: final");
    List<Class<?>> all = new ArrayList<>(List.of(c.getDeclaredClasses()));
    ask(all.size() < 12, "11: some twelve classes");
    for (Class<?> inside : all) ask(Modifier.isStatic(inside.getModifiers()), "2: " + inside + " is static");
    all.add(c);
    for (Class<?> one : all) members(one, c, publicNames);
  }

  private static void members(Class<?> one, Class<?> face, Set<String> publicNames) {
    int fields = 0;
    for (Field f : one.getDeclaredFields()) {
      boolean isStatic = Modifier.isStatic(f.getModifiers());
      if (!isStatic) fields++;
      ask(!isStatic || Modifier.isFinal(f.getModifiers()), "5: " + one + " " + f.getName());
      boolean constant = f.getType().isPrimitive() || f.getType() == String.class || f.getType() == long[].class;
      ask(!isStatic || constant, "5: " + one + " " + f.getName() + " is a constant");
    }
    ask(fields <= 20, "11: fields of " + one);
    for (Method m : one.getDeclaredMethods()) {
      ask(m.getParameterCount() <= 7, "11: parameters of " + m);
      boolean isPublic = one == face && Modifier.isPublic(m.getModifiers());
      ask(isPublic || !publicNames.contains(m.getName()), "1: " + m + " bears a public one's name");
      ask(isPublic || one != face || Modifier.isPrivate(m.getModifiers()), "1: " + m + " is private");
    }
  }

  private static void words(String source) {
    String bare = bare(source);
    for (String word : "throw throws try catch finally synchronized assert package volatile transient native var yield goto double float"
        .split(" "))
      ask(!Pattern.compile("\\b" + word + "\\b").matcher(bare).find(), "6: no " + word);
    for (String sign : new String[] {"->", "::", "@", "\"\" +", "+ \"\""}) ask(!bare.contains(sign), "2, 10: no " + sign);
    Matcher imports = Pattern.compile("import ([^;]*);").matcher(bare);
    while (imports.find()) ask(imports.group(1).equals("java.util.Arrays"), "4: " + imports.group(1));
    Set<String> library = Set.of("System.arraycopy", "Arrays.fill", "Math.max", "Math.min", "Integer.bitCount", "Long.bitCount",
        "Integer.MAX_VALUE");
    Matcher used = Pattern.compile("\\b(System|Arrays|Math|Integer|Long|String|Character|Object|Class|Thread|Runtime)\\.(\\w+)")
        .matcher(bare.replace("java.util.Arrays", ""));
    while (used.find()) ask(library.contains(used.group()), "4: " + used.group());
    for (char c : source.toCharArray()) ask(c < 127, "4: signs below 127");
  }

  private static void lengths(String source) {
    String[] lines = source.split("\n");
    int from = 0;
    for (int k = 0; k < lines.length; k++) {
      ask(lines[k].length() <= 130, "line " + (k + 1) + " is short");
      if (lines[k].matches(" {4,8}\\S.*\\) \\{")) from = k;
      if (lines[k].matches(" {4}\\}| {8}\\}")) {
        ask(lines[k].length() != lines[from].indexOf(lines[from].trim()) + 1 || k - from < 60, "11: method at line " + (from + 1));
      }
    }
    Matcher loops = Pattern.compile("while \\(true\\)|for \\(;;").matcher(source);
    ask(!loops.find(), "9: an end of every loop");
  }

  /** A method that calls itself is a private static one, and carries what ends it as an argument. */
  private static void recursion(String source) {
    String bare = bare(source);
    Matcher heads = Pattern.compile("(?m)^( {4}| {8})((?:\\w+(?:\\[\\])? )+)(\\w+)\\(([^)]*)\\) \\{$").matcher(bare);
    int found = 0;
    while (heads.find()) {
      int end = bare.indexOf("\n" + heads.group(1) + "}", heads.end());
      boolean again = Pattern.compile("(?<![.\\w])" + heads.group(3) + "\\(").matcher(bare.substring(heads.end(), end)).find();
      if (!again) continue;
      found++;
      ask(heads.group(2).startsWith("private static ") && heads.group(4).contains("int "), "8: " + heads.group(3));
    }
    ask(found > 0, "8: the methods that call themselves are found");
  }

  public static void main(String[] args) throws Exception {
    String source = Files.readString(Path.of("src/main/java/PolicyRoutes.java"));
    face();
    words(source);
    lengths(source);
    recursion(source);
    System.out.println("the language's rules, " + wrong + " not kept");
    if (wrong != 0) System.exit(1);
  }
}
