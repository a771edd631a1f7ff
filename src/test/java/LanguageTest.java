import java.lang.management.ManagementFactory;
import java.lang.reflect.Array;
import java.lang.reflect.Field;
import java.lang.reflect.Method;
import java.lang.reflect.Modifier;
import java.nio.file.Files;
import java.nio.file.Path;
import java.util.ArrayList;
import java.util.IdentityHashMap;
import java.util.List;
import java.util.Set;
import java.util.TreeSet;
import java.util.regex.Matcher;
import java.util.regex.Pattern;

/** The face, the rules of LANGUAGE.md that can be seen from outside, and that no call makes objects. */
public final class LanguageTest {
  private static final String[] FACE = {
    "int acts()", "int act(int)", "int armOf(int,int,int)", "int arms(int,int)", "long bottom()",
    "int champion(int)", "int copyLife(int)", "int dawn(int)", "int duel(int)",
    "boolean enough(int,int,int)", "int fair(int,int,int)", "int fallen(int,int,int,int)",
    "boolean faster(int,int,int)", "int fault(int)", "int feed(int,int,int,int,int)",
    "int forced()", "int forge(int,int,int)", "int gift(int,int)", "boolean give(int,int)",
    "int heal(int,int)", "int heldBack(int,int,int,int,int)", "int holder(int)", "int holds(int)",
    "int hurts(int)", "int leastAt(int)", "int least()", "int lived(int)", "int live(int)",
    "int man(int,int)", "int mark()", "boolean mean(int,int)", "int meet(int,int)", "int mend(int)",
    "int move(int)", "int needsWith(int,int,int)", "int needs(int,int)", "int part()",
    "boolean pour(int,int,int,int,int)", "int reached()", "long read(int,int)",
    "boolean rule(int,int)", "int status()", "int thing(int,int)", "int told(int)", "long top()",
    "boolean train(int,int)", "boolean tray(int,int,int)", "int undo()", "int value(int)",
    "int won(int,int)", "int wound()", "boolean write(int,int,long)", "int years(int)"
  };

  public static void main(String[] args) throws Exception {
    face();
    words();
    sizes();
    room();
    held();
    Check.end("LanguageTest");
  }

  private static void face() {
    Class<?> c = BestMenDuel.class;
    Set<String> found = new TreeSet<>();
    Set<String> names = new TreeSet<>();
    for (Method m : c.getDeclaredMethods()) {
      if (Modifier.isPrivate(m.getModifiers())) {
        continue;
      }
      List<String> types = new ArrayList<>();
      for (Class<?> p : m.getParameterTypes()) {
        types.add(p.getName());
      }
      found.add(m.getReturnType().getName() + " " + m.getName() + "(" + String.join(",", types) + ")");
      names.add(m.getName());
      yes(m + " is public and no more", m.getModifiers() == Modifier.PUBLIC);
    }
    yes("the methods are the face: " + found, found.equals(new TreeSet<>(List.of(FACE))));
    yes("final", Modifier.isFinal(c.getModifiers()));
    for (Field f : c.getDeclaredFields()) {
      yes(f + " is private", f.getName().equals("NONE") || Modifier.isPrivate(f.getModifiers()));
    }
    for (Class<?> inner : c.getDeclaredClasses()) {
      yes(inner + " is static", Modifier.isStatic(inner.getModifiers()));
    }
    List<Class<?>> all = new ArrayList<>(List.of(c.getDeclaredClasses()));
    all.add(c);
    yes("at most twelve classes", all.size() <= 12);
    for (Class<?> one : all) {
      int fields = 0;
      for (Field f : one.getDeclaredFields()) {
        boolean fixed = Modifier.isStatic(f.getModifiers());
        yes(f + " is final if static", !fixed || Modifier.isFinal(f.getModifiers()));
        fields += fixed ? 0 : 1;
      }
      yes(one + " has at most twenty fields", fields <= 20);
      for (Method m : one.getDeclaredMethods()) {
        yes(m + " takes at most seven", m.getParameterCount() <= 7);
        yes(m + " has a name of its own", Modifier.isPublic(m.getModifiers()) || !names.contains(m.getName()));
      }
    }
  }

  private static String source() throws Exception {
    return Files.readString(Path.of("src/main/java/BestMenDuel.java"));
  }

  private static String withoutComments(String source) {
    return source.replaceAll("(?s)/\\*.*?\\*/", " ").replaceAll("//[^\\n]*", " ");
  }

  private static void words() throws Exception {
    String code = withoutComments(source());
    String[] never = {
      "throw", "throws", "try", "catch", "synchronized", "assert", "import", "package", "instanceof",
      "protected", "native", "volatile", "transient", "var", "double", "float", "Exact", "Random"
    };
    for (String word : never) {
      yes("no " + word, !Pattern.compile("\\b" + word + "\\b").matcher(code).find());
    }
    yes("no lambda", !code.contains("->"));
    yes("no method reference", !code.contains("::"));
    yes("texts are not joined by +", !code.contains("\" +") && !code.contains("+ \""));
    yes("plain signs alone", code.chars().allMatch(c -> c == '\n' || c >= 32 && c < 127));
    Matcher made = Pattern.compile("(?m)^(.*)\\bnew\\b").matcher(code);
    while (made.find()) {
      // Constructors alone make objects: they assign to fields, four or six signs in.
      String line = made.group(1);
      yes("made in a constructor: " + line, line.matches(" {4,6}[a-zA-Z]+(\\[i\\])? = "));
    }
  }

  private static void sizes() throws Exception {
    String[] lines = source().split("\n");
    int start = -1;
    for (int i = 0; i < lines.length; i++) {
      if (lines[i].matches(" {2}(  )?\\S.*\\) \\{")) {
        start = i;
      }
      if (start >= 0 && lines[i].matches(" {2}(  )?\\}")) {
        yes("short: " + lines[start], i - start < 60);
        start = -1;
      }
    }
  }

  private static void many(BestMenDuel x) {
    x.live(77);
    x.mean(5, 20);
    x.meet(0, 1);
    for (int turns = 0; turns < 8; turns++) {
      x.value(turns);
      x.move(turns);
    }
    x.forced();
    x.reached();
    x.acts();
    x.wound();
    x.act(1);
    x.arms(6, 0);
    x.armOf(6, 0, 1);
    x.fair(0, 1, 0);
    x.gift(0, 1);
    x.faster(0, 1, 7);
    x.enough(0, 1, 12);
    x.champion(0);
    x.tray(0, 0, 20);
    x.heldBack(0, 1, 0, 20, 0);
    x.fallen(0, 1, 0, 20);
    x.hurts(0);
    x.least();
    x.leastAt(0);
    x.copyLife(0);
    x.pour(0, 0, 0, 1, 9);
    x.mark();
    x.feed(0, 0, 0, 0, 0);
    x.years(20);
    x.undo();
  }

  private static BestMenDuel laid() {
    BestMenDuel x = new BestMenDuel();
    Check.dawn(x, "long 3;thing s reach 2 weight 4 breaks 2;thing t reach 1 weight 1 breaks 9;"
        + "thing u reach 6 weight 0 breaks 1;man a strength 3 life 20 holds s;"
        + "man b strength 5 life 12 holds t;man c strength 1 life 7;");
    Check.years(x, "loop 9;meet a b;loop 9;any;strike;end;heal a 9;heal b 9;end;");
    return x;
  }

  private static void room() {
    com.sun.management.ThreadMXBean bean =
        (com.sun.management.ThreadMXBean) ManagementFactory.getThreadMXBean();
    long me = Thread.currentThread().getId();
    many(laid());
    BestMenDuel x = laid();
    bean.getThreadAllocatedBytes(me);
    long before = bean.getThreadAllocatedBytes(me);
    for (int i = 0; i < 10; i++) {
      many(x);
    }
    long made = bean.getThreadAllocatedBytes(me) - before;
    yes("calls make no objects, but made bytes: " + made, made < 4096);
  }

  /** A thousand objects must fit in the room of 600,000 objects, 7.3 million fields and elements. */
  private static void held() throws Exception {
    IdentityHashMap<Object, Object> met = new IdentityHashMap<>();
    long parts = count(new BestMenDuel(), met);
    yes("objects and arrays of one object: " + met.size(), met.size() <= 600);
    yes("fields and elements of one object: " + parts, parts <= 7300);
  }

  private static long count(Object o, IdentityHashMap<Object, Object> met) throws Exception {
    if (o == null || met.put(o, o) != null) {
      return 0;
    }
    if (o.getClass().isArray()) {
      int length = Array.getLength(o);
      long parts = length;
      for (int i = 0; i < length && !o.getClass().getComponentType().isPrimitive(); i++) {
        parts += count(Array.get(o, i), met);
      }
      return parts;
    }
    long parts = 0;
    for (Field f : o.getClass().getDeclaredFields()) {
      if (!Modifier.isStatic(f.getModifiers())) {
        f.setAccessible(true);
        parts += 1 + (f.getType().isPrimitive() ? 0 : count(f.get(o), met));
      }
    }
    return parts;
  }

  private static void yes(String what, boolean holds) {
    Check.due(what, holds, true);
  }
}
