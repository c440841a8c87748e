import java.lang.reflect.Constructor;
import java.lang.reflect.Field;
import java.lang.reflect.Method;
import java.lang.reflect.Modifier;
import java.nio.file.Files;
import java.nio.file.Path;
import java.util.ArrayList;
import java.util.Arrays;
import java.util.List;
import java.util.TreeSet;
import java.util.regex.Matcher;
import java.util.regex.Pattern;

/** The face of the class, and what of its language can be read off its text. */
public final class LanguageTest {
  private static final String[] FACE = {"letter(int)", "line()", "station(int,int)", "name(int,int)", "kind(int,int)",
      "form(int)", "few(int,int)", "ways(int,int,int)L", "whither(int)", "whence(int)", "blind()", "dead()",
      "parts(int)", "never()", "more(int,int)", "worst(int)", "changed()", "luck(int,int,int,int)L", "putIn(int,int)",
      "shut(int)", "alike(int,int)", "row(int)", "gotOn(int)L", "misspelt()", "judge()", "seeds(int,int,int)",
      "image()", "on()", "count(int)"};
  private static final String[] BANNED = {"throw", "try", "catch", "synchronized", "assert", "import", "package",
      "->", "::", "instanceof", "Exact", "System.out", "Random", "currentTimeMillis", "nanoTime", "\"\\s*\\+",
      "\\+\\s*\"", "hashCode", "toString", "goto", "protected"};

  private static final Pattern LIBRARY = Pattern.compile("(Integer|Long|Math)\\.(compare|max|min|abs|bitCount|floorDiv|floorMod)"
      + "|System\\.arraycopy|Arrays\\.(copyOf|copyOfRange|fill)|List\\.of");

  private static final List<String> faults = new ArrayList<>();

  public static void main(String[] args) throws Exception {
    checkFace();
    checkMembers(StopsByLetters.class);
    for (Class<?> inner : StopsByLetters.class.getDeclaredClasses()) checkInner(inner);
    checkText(Files.readString(Path.of("src/main/java/StopsByLetters.java")));
    faults.forEach(System.out::println);
    System.out.println(faults.size() + " faults of language");
    if (!faults.isEmpty()) System.exit(1);
  }

  private static void check(boolean holds, String fault) {
    if (!holds) faults.add(fault);
  }

  private static String signature(Method m) {
    List<String> types = new ArrayList<>();
    for (Class<?> type : m.getParameterTypes()) types.add(type.getName());
    return m.getName() + "(" + String.join(",", types) + ")" + (m.getReturnType() == long.class ? "L" : "");
  }

  private static void checkFace() {
    TreeSet<String> face = new TreeSet<>();
    for (Method m : StopsByLetters.class.getDeclaredMethods()) {
      if (!Modifier.isPrivate(m.getModifiers())) face.add(signature(m));
    }
    check(face.equals(new TreeSet<>(Arrays.asList(FACE))), "the face is " + face);
    int modifiers = StopsByLetters.class.getModifiers();
    check(Modifier.isPublic(modifiers) && Modifier.isFinal(modifiers), "the class is public and final");
    Constructor<?>[] made = StopsByLetters.class.getDeclaredConstructors();
    check(made.length == 1 && Modifier.isPublic(made[0].getModifiers()), "one public constructor");
    check(made.length == 1 && made[0].getParameterCount() == 0, "a constructor of nothing");
  }

  private static boolean isOfFace(String name) {
    return Arrays.stream(FACE).anyMatch(one -> one.startsWith(name + "("));
  }

  private static void checkMembers(Class<?> owner) {
    for (Method m : owner.getDeclaredMethods()) {
      boolean isPrivate = Modifier.isPrivate(m.getModifiers());
      check(!isPrivate || !isOfFace(m.getName()), "private " + m + " bears a public name");
      check(m.getParameterCount() <= 7, m + " takes more than seven");
    }
    int fields = 0;
    for (Field f : owner.getDeclaredFields()) {
      check(Modifier.isPrivate(f.getModifiers()), f + " is private");
      if (Modifier.isStatic(f.getModifiers())) check(Modifier.isFinal(f.getModifiers()), f + " is final");
      else fields++;
    }
    check(fields <= 20, owner + " has more than twenty fields");
  }

  private static void checkInner(Class<?> inner) {
    check(Modifier.isStatic(inner.getModifiers()), inner + " is static");
    checkMembers(inner);
  }

  /** Rule 4, of what bears the name of a class before it. */
  private static void checkLibrary(String code) {
    Matcher m = Pattern.compile("\\b([A-Z][a-z]\\w*)\\.(\\w+)").matcher(code);
    while (m.find()) {
      boolean isOwn = Arrays.stream(StopsByLetters.class.getDeclaredClasses()).anyMatch(c -> c.getSimpleName().equals(m.group(1)));
      check(isOwn || LIBRARY.matcher(m.group()).matches(), "the library's " + m.group());
    }
    check(StopsByLetters.class.getDeclaredClasses().length < 12, "more than twelve classes");
  }

  /** All calls live in one room: everything is made with the object, nothing by a call. */
  private static void checkRoom(String code) {
    for (String line : code.split("\n")) {
      boolean makes = Pattern.compile("\\bnew\\b|\\bclone\\b|\\bcopyOf").matcher(line).find();
      check(!makes || line.matches(" +private final .* = new .*;"), "made by a call: " + line.trim());
    }
  }

  private static void checkText(String text) {
    String code = text.replaceAll("(?s)/\\*.*?\\*/", "").replaceAll("//[^\n]*", "");
    for (String banned : BANNED) {
      String word = banned.matches("\\w+") ? "\\b" + banned + "\\b" : banned;
      Matcher m = Pattern.compile(word).matcher(code);
      check(!m.find(), "the text has " + banned);
    }
    check(text.chars().allMatch(c -> c < 127), "a sign beyond 126");
    checkLibrary(code);
    checkRoom(code);
    // A method begins and ends in a column of its own.
    for (String indent : new String[] {"  ", "    "}) {
      Matcher m = Pattern.compile("(?m)^" + indent + "(?:public|private)[^\n=;]*\\) \\{\n(.*\n)*?" + indent + "\\}$").matcher(text);
      while (m.find()) check(m.group().split("\n").length <= 60, "more than sixty lines: " + m.group().split("\n")[0]);
    }
  }
}
