import java.io.IOException;
import java.lang.management.ManagementFactory;
import java.lang.reflect.Constructor;
import java.lang.reflect.Field;
import java.lang.reflect.Method;
import java.lang.reflect.Modifier;
import java.nio.file.Files;
import java.nio.file.Path;
import java.util.ArrayList;
import java.util.List;
import java.util.Set;
import java.util.TreeSet;

/** The class has the document's face and no other; keeps to the language; calls make no objects. */
public final class SeaClothFace {
  private static final String[] FACE = {
    "int sign(int)", "boolean end(int)", "int cloth()", "int rule()", "int cell(int,int)",
    "int thread(int,int,int)", "int sheet(int,int,int,int)", "int nights(int)", "int weaves(int,int,int)",
    "int draws(int,int)", "int flips(int,int)", "int mirrors(int)", "int work()", "int undo()", "int next()",
    "int later(int)", "int falls()", "int rags()", "int lefts(int)", "int outlasts()", "int words(int,int)",
    "int loose()", "int sheds()", "int hangs()", "int spares()", "int mends()", "int endures()", "int differs()",
    "int looks()", "int repeats()", "int runs()", "int twins()", "int game()", "int told(int,int)", "int forget()",
    "int fits()", "int asks()", "int odds(int)", "int law()", "int rests(int)", "int years(int,int)",
    "boolean keep(int)", "boolean again(int)", "int count(int)", "long row(int)"};
  private static final String[] BANNED = {
    "->", "::", "Exact", "finally", "synchronized", "assert ", "System.out", "System.nano", "System.current",
    "Math.random", "getMessage", "hashCode", "catch", "interface", "double", "float", "Thread.", "new Integer"};
  private static final int MOST_LINES = 60;
  private static int wrong = 0;

  public static void main(String[] args) throws IOException {
    face();
    language(Files.readAllLines(Path.of(System.getProperty("seacloth.source", "src/main/java/SeaCloth.java"))));
    room();
    System.out.println(wrong == 0 ? "the face is as it should be" : wrong + " faults");
    if (wrong != 0) {
      System.exit(1);
    }
  }

  private static void fault(String what) {
    wrong++;
    System.out.println(what);
  }

  private static void face() {
    Class<?> c = SeaCloth.class;
    if (c.getModifiers() != (Modifier.PUBLIC | Modifier.FINAL) || c.getPackageName().length() > 0) {
      fault("the class is not public and final, without a package");
    }
    Set<String> due = new TreeSet<>(List.of(FACE));
    Set<String> names = new TreeSet<>();
    for (Method m : c.getDeclaredMethods()) {
      if (Modifier.isPublic(m.getModifiers())) {
        names.add(m.getName());
        if (!due.remove(signature(m)) || Modifier.isStatic(m.getModifiers())) {
          fault("not of the face: " + signature(m));
        }
      } else if (!Modifier.isPrivate(m.getModifiers())) {
        fault("not private: " + m.getName());
      }
    }
    for (String missing : due) {
      fault("missing: " + missing);
    }
    List<Class<?>> all = new ArrayList<>(List.of(c.getDeclaredClasses()));
    if (all.size() > 11) {
      fault("more than twelve classes");
    }
    for (Class<?> inner : all) {
      if (!Modifier.isStatic(inner.getModifiers()) || Modifier.isPublic(inner.getModifiers())) {
        fault("a class inside that is public or not static: " + inner.getName());
      }
    }
    all.add(c);
    for (Class<?> one : all) {
      fieldsAndNames(one, names);
    }
    Constructor<?>[] made = c.getDeclaredConstructors();
    if (made.length != 1 || !Modifier.isPublic(made[0].getModifiers()) || made[0].getParameterCount() != 0) {
      fault("another constructor");
    }
  }

  private static void fieldsAndNames(Class<?> one, Set<String> publicNames) {
    int fields = 0;
    for (Field f : one.getDeclaredFields()) {
      boolean isStatic = Modifier.isStatic(f.getModifiers());
      fields += isStatic ? 0 : 1;
      if (isStatic && !Modifier.isFinal(f.getModifiers())) {
        fault("a static field that is not final: " + f.getName());
      }
      boolean isNone = f.getName().equals("NONE") && f.getType() == int.class;
      if (one == SeaCloth.class && isNone != Modifier.isPublic(f.getModifiers())) {
        fault("a field of another face: " + f.getName());
      }
    }
    if (fields > 20) {
      fault("more than twenty fields in " + one.getName());
    }
    for (Method m : one.getDeclaredMethods()) {
      if (!Modifier.isPublic(m.getModifiers()) && publicNames.contains(m.getName())) {
        fault("a private method with the name of a public one: " + m.getName());
      }
      if (m.getParameterCount() > 7) {
        fault("more than seven parameters: " + m.getName());
      }
    }
  }

  private static String signature(Method m) {
    StringBuilder s = new StringBuilder(m.getReturnType().getName()).append(' ').append(m.getName()).append('(');
    for (int i = 0; i < m.getParameterCount(); i++) {
      s.append(i > 0 ? "," : "").append(m.getParameterTypes()[i].getName());
    }
    return s.append(')').toString();
  }

  private static void language(List<String> lines) {
    int opened = -1;
    String header = "";
    for (int n = 0; n < lines.size(); n++) {
      String line = lines.get(n);
      String code = line.strip();
      if (code.startsWith("*") || code.startsWith("/")) {
        continue;
      }
      for (String word : BANNED) {
        if (code.contains(word)) {
          fault("line " + (n + 1) + " has " + word);
        }
      }
      if (code.startsWith("import ")
          && !code.equals("import java.util.Arrays;") && !code.equals("import java.util.NoSuchElementException;")) {
        fault("line " + (n + 1) + ": " + code);
      }
      boolean opensMethod = line.matches("( {4}| {8})[a-z].*\\) (throws \\w+ )?\\{");
      if (opensMethod) {
        opened = n;
        header = code;
      }
      if (opened >= 0 && line.matches("( {4}| {8})\\}")) {
        if (n - opened + 1 > MOST_LINES) {
          fault("more than " + MOST_LINES + " lines: " + header);
        }
        opened = -1;
      }
    }
  }

  /** All calls of a run live in one room, so a call that can be made often must make nothing. */
  private static void room() {
    com.sun.management.ThreadMXBean threads =
        (com.sun.management.ThreadMXBean) ManagementFactory.getThreadMXBean();
    SeaCloth x = new SeaCloth();
    everyCall(x);
    long id = Thread.currentThread().getId();
    long before = threads.getThreadAllocatedBytes(id);
    long between = threads.getThreadAllocatedBytes(id);
    for (int n = 0; n < 50; n++) {
      everyCall(x);
    }
    long made = threads.getThreadAllocatedBytes(id) - between - (between - before);
    // The measuring makes some bytes itself; one object in each of the 50 rounds would be 800 or more.
    if (made > 700) {
      fault("calls made " + made + " bytes");
    }
    before = threads.getThreadAllocatedBytes(id);
    x = new SeaCloth();
    made = threads.getThreadAllocatedBytes(id) - before;
    if (made > 16000 || x.count(0) != 1) {
      fault("a new object is of " + made + " bytes");
    }
  }

  private static void everyCall(SeaCloth x) {
    tell(x, '5' << 24 | '#' << 16 | '.' << 8 | '#', '.' << 24 | '#' << 16 | '.' << 8 | '#', 8);
    x.cloth();
    tell(x, '1' << 24 | '#' << 16, 0, 2);
    x.rags();
    tell(x, '5' << 24 | '.' << 16 | '.' << 8 | '#', '#' << 24 | '#' << 16 | '#' << 8 | '#', 6);
    x.differs();
    tell(x, '(' << 24 | 'c' << 16 | ')' << 8 | '*', '2' << 24 | '<' << 16 | 'o' << 8, 7);
    x.rule();
    tell(x, 'i' << 24, 0, 1);
    x.law();
    for (int n = 0; n < 5; n++) {
      x.weaves(0, 0, 13 + n);
      x.weaves(1, 1, 1);
    }
    tell(x, 't' << 24 | '0' << 16 | '0' << 8 | 'm', '1' << 24 | 'n' << 16 | '1' << 8, 7);
    x.work();
    x.thread(1, 0, 4);
    x.cell(0, 0);
    x.sheet(0, 6, 21, 11);
    x.flips(0, 0);
    x.mirrors(0);
    x.next();
    x.later(20);
    x.falls();
    x.lefts(3);
    x.outlasts();
    x.words(6, 1);
    x.loose();
    x.sheds();
    x.hangs();
    x.spares();
    x.mends();
    x.endures();
    x.looks();
    x.repeats();
    x.runs();
    x.twins();
    x.game();
    x.told(1, 1);
    x.fits();
    x.asks();
    x.forget();
    x.odds(3);
    x.rests(9);
    x.years(5, 40);
    x.keep(1);
    x.nights(1);
    x.undo();
    x.again(1);
    x.draws(0, 0);
    x.count(3);
    x.later(1);
    x.row(0);
  }

  private static void tell(SeaCloth x, int first, int second, int signs) {
    x.end(0);
    x.sign(first);
    x.sign(second);
    x.end(signs);
  }
}
