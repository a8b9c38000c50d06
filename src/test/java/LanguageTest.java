import java.lang.reflect.Method;
import java.lang.reflect.Modifier;
import java.nio.file.Files;
import java.nio.file.Path;
import java.util.ArrayList;
import java.util.List;
import java.util.Map;
import java.util.Set;
import java.util.TreeMap;
import java.util.TreeSet;
import java.util.regex.Matcher;
import java.util.regex.Pattern;

/** Looks for what ../shared/LANGUAGE.md rules out, as far as a reader of lines can see it. */
public final class LanguageTest {
  private static final List<String> found = new ArrayList<>();

  public static void main(String[] args) throws Exception {
    String source = Files.readString(Path.of("src/main/java/PivotStreet.java"));
    String code = source.replaceAll("(?s)/\\*.*?\\*/", "").replaceAll("//[^\n]*", "").replaceAll("\"[^\"\n]*\"", "\"\"");
    words(code);
    imports(code);
    names(code);
    methods(code);
    depths(code);
    face();
    room();
    for (int i = 0; i < source.length(); i++) {
      if (source.charAt(i) > 126) found.add("a sign above 126 at " + i);
    }
    for (String line : found) System.out.println(line);
    System.out.println(found.isEmpty() ? "the class keeps to its language" : found.size() + " breaches");
    if (!found.isEmpty()) System.exit(1);
  }

  private static void words(String code) {
    Matcher m = Pattern.compile("\\b(throw|throws|try|catch|finally|synchronized|assert|volatile|transient|native|hashCode|toString|protected|Object|\\w*Exact|Thread|Random|System\\.(?!arraycopy)\\w+)\\b|->|::|\\bstatic\\s*\\{").matcher(code);
    while (m.find()) found.add("rule 2, 4, 5, 6 or 13: " + m.group());
    m = Pattern.compile("\"\"\\s*\\+|\\+\\s*\"\"").matcher(code);
    while (m.find()) found.add("rule 10: texts joined by +");
    m = Pattern.compile("\\bstatic (?!final|class|boolean \\w+\\(|int \\w+\\(|long \\w+\\()").matcher(code);
    while (m.find()) found.add("rule 5: static at " + m.start());
  }

  private static void imports(String code) {
    Matcher m = Pattern.compile("import ([^;]+);").matcher(code);
    while (m.find()) {
      if (!m.group(1).equals("java.util.Arrays")) found.add("rule 4: " + m.group());
    }
    m = Pattern.compile("\\b(Math|Integer|Arrays|System)\\.(\\w+)").matcher(code);
    Set<String> allowed = Set.of("abs", "min", "max", "floorMod", "compare", "bitCount", "fill", "arraycopy");
    while (m.find()) {
      if (!allowed.contains(m.group(2))) found.add("rule 4: " + m.group());
    }
    m = Pattern.compile("\\bnew (\\w+)").matcher(code);
    while (m.find()) {
      int line = code.lastIndexOf('\n', m.start());
      String text = code.substring(line + 1, code.indexOf('\n', m.start()));
      boolean inField = text.contains("private ") || text.contains("final ") || text.equals("        Town draft = new Town();");
      boolean inConstructor = text.contains("images[k]") || text.contains("slots[slot]");
      if (!inField && !inConstructor) found.add("rule 12: made outside constructors: " + text.trim());
    }
  }

  private static void names(String code) {
    Set<String> face = new TreeSet<>();
    Matcher m = Pattern.compile("(?m)^ {4}public (?:int|long) (\\w+)\\(").matcher(code);
    while (m.find()) face.add(m.group(1));
    if (face.size() != 80) found.add("rule 1: the face has " + face.size() + " names");
    m = Pattern.compile("(?m)^\\s+(?:private )?(?:static )?(?:int|long|void|boolean) (\\w+)\\(").matcher(code);
    while (m.find()) {
      if (face.contains(m.group(1))) found.add("rule 1: a private method bears the name " + m.group(1));
    }
  }

  private static void methods(String code) {
    String[] lines = code.split("\n");
    for (int i = 0; i < lines.length; i++) {
      Matcher m = Pattern.compile("^( {4}| {8})(?:public |private )?(?:static )?[\\w\\[\\]]+ \\w+\\(([^)]*)\\) \\{$").matcher(lines[i]);
      if (!m.find()) continue;
      if (m.group(2).split(",").length > 7) found.add("rule 11: parameters of " + lines[i].trim());
      int end = i;
      while (end < lines.length && !lines[end].equals(m.group(1) + "}")) end++;
      if (end - i > 60) found.add("rule 11: long method " + lines[i].trim());
    }
  }

  /** How deep calls go, by names alone: a name that several classes use counts as all of them. */
  private static void depths(String code) {
    Map<String, Set<String>> calls = new TreeMap<>();
    String[] lines = code.split("\n");
    String method = "";
    Pattern head = Pattern.compile("^(?: {4}| {8})(?:public |private )?(?:static )?[\\w\\[\\]]+ (\\w+)\\([^)]*\\) \\{$");
    for (String line : lines) {
      Matcher m = head.matcher(line);
      if (m.find()) {
        method = m.group(1);
        calls.putIfAbsent(method, new TreeSet<>());
        continue;
      }
      Matcher call = Pattern.compile("(?<!Arrays\\.)(?<!Math\\.)(?<!Integer\\.)\\b(\\w+)\\(").matcher(line);
      while (call.find() && !method.isEmpty()) calls.get(method).add(call.group(1));
    }
    if (calls.size() < 150) found.add("rule 11: only " + calls.size() + " methods were found");
    for (String name : calls.keySet()) {
      int depth = depth(name, calls, 0);
      if (depth > 8) found.add("rule 11: " + name + " goes " + depth + " deep");
    }
  }

  private static int depth(String name, Map<String, Set<String>> calls, int open) {
    if (open > 20) return 20;
    int deepest = 0;
    for (String called : calls.get(name)) {
      if (calls.containsKey(called)) deepest = Math.max(deepest, depth(called, calls, open + 1));
    }
    return deepest + 1;
  }

  /** One object's rows are counted: what all calls may use is bounded, and nothing is made after the constructor. */
  private static void room() throws Exception {
    Set<Object> objects = java.util.Collections.newSetFromMap(new java.util.IdentityHashMap<>());
    int elements = held(new PivotStreet(), objects);
    System.out.println("one object holds " + elements + " fields and elements in " + objects.size() + " objects and arrays");
    if (elements > 10000) found.add("an object holds " + elements + " fields and elements");
    if (objects.size() > 150) found.add("an object holds " + objects.size() + " objects and arrays");
  }

  private static int held(Object object, Set<Object> objects) throws Exception {
    if (object == null || !objects.add(object)) return 0;
    int count = 0;
    if (object.getClass().isArray()) {
      int length = java.lang.reflect.Array.getLength(object);
      boolean ofNumbers = object.getClass().getComponentType().isPrimitive();
      for (int i = 0; i < length && !ofNumbers; i++) count += held(java.lang.reflect.Array.get(object, i), objects);
      return count + length;
    }
    for (java.lang.reflect.Field field : object.getClass().getDeclaredFields()) {
      if (Modifier.isStatic(field.getModifiers())) continue;
      field.setAccessible(true);
      count++;
      if (!field.getType().isPrimitive()) count += held(field.get(object), objects);
    }
    return count;
  }

  private static void face() {
    for (Method method : PivotStreet.class.getDeclaredMethods()) {
      int mod = method.getModifiers();
      if (!Modifier.isPublic(mod) && !Modifier.isPrivate(mod) && !method.isSynthetic()) found.add("rule 1: " + method);
    }
    for (java.lang.reflect.Field field : PivotStreet.class.getDeclaredFields()) {
      boolean constant = field.getName().equals("NONE");
      if (!constant && !Modifier.isPrivate(field.getModifiers())) found.add("rule 1: " + field);
    }
    if (!Modifier.isFinal(PivotStreet.class.getModifiers())) found.add("rule 1: not final");
    if (PivotStreet.class.getDeclaredClasses().length > 12) found.add("rule 11: classes");
    for (Class<?> inner : PivotStreet.class.getDeclaredClasses()) {
      if (!Modifier.isStatic(inner.getModifiers())) found.add("rule 2: " + inner);
      long fields = java.util.Arrays.stream(inner.getDeclaredFields()).filter(f -> !Modifier.isStatic(f.getModifiers())).count();
      if (fields > 20) found.add("rule 11: fields of " + inner);
    }
  }
}
