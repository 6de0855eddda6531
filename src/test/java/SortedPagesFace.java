import java.lang.reflect.Constructor;
import java.lang.reflect.Field;
import java.lang.reflect.Method;
import java.lang.reflect.Modifier;
import java.nio.file.Files;
import java.nio.file.Path;
import java.util.Random;
import java.util.Set;
import java.util.TreeSet;
import java.util.regex.Matcher;
import java.util.regex.Pattern;

/** The face is the document's and no more, the source keeps to what can be seen of LANGUAGE.md, and no call throws. */
public final class SortedPagesFace {
  private static final Set<String> FACE = Set.of("int type(int)", "int clear()", "int run()", "int put(int,int,int)", "int take(int,int)",
    "int load(int,int,int)", "int find(int,int)", "int rank(int,int,int)", "int path(int,int,int)", "int letter(int,int)", "int value(int)",
    "int page(int,int)", "int byteAt(int,int)", "int check(int,int,int)", "int count(int)", "long digest()", "int keep(int)", "int back(int)",
    "int times(int)");
  private static int wrong = 0;

  private static void due(String what, boolean holds) {
    if (!holds) {
      wrong++;
      System.out.println(what);
    }
  }

  private static String told(Method method) {
    StringBuilder text = new StringBuilder(method.getReturnType().getName()).append(' ').append(method.getName()).append('(');
    for (Class<?> parameter : method.getParameterTypes()) text.append(text.charAt(text.length() - 1) == '(' ? "" : ",").append(parameter.getName());
    return text.append(')').toString();
  }

  private static void face() {
    Set<String> open = new TreeSet<>();
    Set<String> names = new TreeSet<>();
    for (Method method : SortedPages.class.getDeclaredMethods()) {
      if (method.isSynthetic()) continue;
      if (Modifier.isPrivate(method.getModifiers())) continue;
      due("not public: " + method, Modifier.isPublic(method.getModifiers()) && !Modifier.isStatic(method.getModifiers()));
      open.add(told(method));
      names.add(method.getName());
    }
    due("methods are " + open, open.equals(new TreeSet<>(FACE)));
    due("the class is public and final", SortedPages.class.getModifiers() == (Modifier.PUBLIC | Modifier.FINAL));
    Constructor<?>[] all = SortedPages.class.getDeclaredConstructors();
    due("one public constructor", all.length == 1 && Modifier.isPublic(all[0].getModifiers()) && all[0].getParameterCount() == 0);
    Set<String> constants = new TreeSet<>();
    for (Field field : SortedPages.class.getDeclaredFields()) {
      if (Modifier.isPublic(field.getModifiers())) constants.add(field.getName());
      else due("not private: " + field, Modifier.isPrivate(field.getModifiers()));
    }
    due("constants are " + constants, constants.equals(Set.of("BAD", "STATE", "FULL", "NONE")));
    for (Class<?> inside : SortedPages.class.getDeclaredClasses()) {
      due("static and not public: " + inside, Modifier.isStatic(inside.getModifiers()) && !Modifier.isPublic(inside.getModifiers()));
      for (Method method : inside.getDeclaredMethods()) due("a name of the face: " + method, !names.contains(method.getName()));
      for (Field field : inside.getDeclaredFields()) {
        due("a static that is not final: " + field, !Modifier.isStatic(field.getModifiers()) || Modifier.isFinal(field.getModifiers()));
      }
    }
  }

  private static void source() throws Exception {
    String text = Files.readString(Path.of("src/main/java/SortedPages.java"));
    String code = text.replaceAll("(?s)/\\*.*?\\*/", "").replaceAll("//[^\n]*", "");
    String[] none = {"\\bthrow\\b", "\\btry\\b", "\\bcatch\\b", "\\bsynchronized\\b", "\\bassert\\b", "->", "::", "\\bpackage\\b", "Exact\\b",
      "\\bdouble\\b", "\\bfloat\\b", "\\bstatic\\s*\\{", "\"\\s*\\+", "\\+\\s*\"", "\\bimport (?!java\\.util\\.Arrays;)"};
    for (String pattern : none) due("the source has " + pattern, !Pattern.compile(pattern).matcher(code).find());
    Matcher lines = Pattern.compile("(?m)^.{141,}$").matcher(text);
    due("a line of more than 140 signs", !lines.find());
  }

  /** Any arguments in any state: what the machine throws would end this test. */
  private static void nothingIsThrown() {
    int[] numbers = {Integer.MIN_VALUE, -65, -2, -1, 0, 1, 2, 3, 4, 5, 6, 7, 8, 9, 31, 32, 63, 64, 97, 255, 256, 17575, 17576, Integer.MAX_VALUE};
    Random random = new Random(7);
    for (int object = 0; object < 60; object++) {
      SortedPages x = new SortedPages();
      for (int call = 0; call < 400; call++) {
        int a = numbers[random.nextInt(numbers.length)], b = numbers[random.nextInt(numbers.length)], c = numbers[random.nextInt(numbers.length)];
        switch (random.nextInt(20)) {
          case 0: x.type("putakeload 0123;".charAt(random.nextInt(16))); break;
          case 1: x.type(a); break;
          case 2: if (random.nextInt(9) == 0) x.clear(); break;
          case 3: x.run(); break;
          case 4: x.put(a, b, c); break;
          case 5: x.put(random.nextInt(400), 2 + random.nextInt(4), 3); break;
          case 6: x.take(a, b); break;
          case 7: x.take(random.nextInt(400), 2 + random.nextInt(4)); break;
          case 8: if (random.nextInt(9) == 0) x.load(a, b, c); break;
          case 9: x.find(a, b); break;
          case 10: x.rank(a, b, c); break;
          case 11: x.path(a, b, c); break;
          case 12: x.letter(a, b); break;
          case 13: x.value(a); break;
          case 14: x.page(a, b); x.count(c); break;
          case 15: x.byteAt(a, b); x.times(c); break;
          case 16: x.check(a, b, c); break;
          case 17: x.check(random.nextInt(32), random.nextInt(64), random.nextInt(256)); break;
          case 18: x.keep(a); break;
          default: x.back(b); break;
        }
      }
      due("check of what is there, object " + object, x.check(31, 63, 0) == 0);
    }
  }

  public static void main(String[] args) throws Exception {
    face();
    source();
    nothingIsThrown();
    System.out.println(wrong == 0 ? "all is as due" : wrong + " are not as due");
    if (wrong != 0) System.exit(1);
  }
}
