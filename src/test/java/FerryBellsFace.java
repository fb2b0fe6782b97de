import java.lang.reflect.Constructor;
import java.lang.reflect.Field;
import java.lang.reflect.Method;
import java.lang.reflect.Modifier;
import java.nio.file.Files;
import java.nio.file.Path;
import java.util.List;
import java.util.Set;
import java.util.TreeSet;

/** The face is the document's and no more, and the source keeps to what LANGUAGE.md leaves. */
public final class FerryBellsFace {

  static final String[] FACE = {
    "int river 1", "int minutes 2", "int sort 2", "int comes 2", "int set 2", "int rule 1",
    "int go 1", "int tell 1", "int boat 1", "int stand 3", "int aboard 1", "int told 1",
    "int day 5", "int mean 5", "int best 5", "int where 4", "int enough 4", "int lantern 5",
    "int price 5", "int son 5", "int goings 2", "int bestGoings 1", "long nobody 3",
    "int judge 2", "int image 0", "int restore 0", "int count 1", "int keep 4", "int row 3",
    "int put 3", "long element 2", "int copy 5", "int care 1", "int toss 1",
  };

  /** None of these words is in the part of Java that is left, or in the library that is. */
  static final String[] NOT_LEFT = {
    "import ", "->", "::", "finally", "synchronized", "assert ", "@Override", "Exact(",
    "catch (Exception", "catch (RuntimeException", "catch (Throwable", "catch (Error",
    "catch (ArrayIndexOutOfBoundsException", "catch (IndexOutOfBoundsException",
    "catch (NullPointerException", "catch (ArithmeticException", "catch (ClassCastException",
    "catch (NegativeArraySizeException", "catch (ArrayStoreException", "hashCode", "toString",
    "static {", "Integer.M", "Long.M", "System.nano", "System.current", "Random",
  };

  static int wrong = 0;

  static void check(String what, boolean good) {
    if (!good) {
      wrong++;
      System.out.println("wrong: " + what);
    }
  }

  static void face() throws Exception {
    Set<String> due = new TreeSet<>(List.of(FACE));
    Set<String> got = new TreeSet<>();
    Set<String> names = new TreeSet<>();
    for (String line : FACE) {
      names.add(line.split(" ")[1]);
    }
    for (Method m : FerryBells.class.getDeclaredMethods()) {
      int mods = m.getModifiers();
      if (Modifier.isPublic(mods)) {
        got.add(m.getReturnType() + " " + m.getName() + " " + m.getParameterCount());
        for (Class<?> type : m.getParameterTypes()) {
          check("an int each: " + m, type == int.class);
        }
        check("not static: " + m, !Modifier.isStatic(mods));
        check("throws as told: " + m,
            m.getExceptionTypes().length == (m.getName().equals("element") ? 2 : 0));
      } else {
        check("private: " + m, Modifier.isPrivate(mods));
        check("a name of its own: " + m, !names.contains(m.getName()));
      }
    }
    check("the face: " + got, got.equals(due));
    for (Field f : FerryBells.class.getDeclaredFields()) {
      check("private: " + f, Modifier.isPrivate(f.getModifiers()));
    }
    Constructor<?>[] made = FerryBells.class.getDeclaredConstructors();
    check("one constructor", made.length == 1 && made[0].getParameterCount() == 0
        && Modifier.isPublic(made[0].getModifiers()));
    check("final", Modifier.isFinal(FerryBells.class.getModifiers()));
  }

  static void classesInside() {
    Class<?>[] inside = FerryBells.class.getDeclaredClasses();
    check("some twelve classes", inside.length <= 12);
    for (Class<?> c : inside) {
      int fields = 0;
      for (Field f : c.getDeclaredFields()) {
        if (Modifier.isStatic(f.getModifiers())) {
          check("constant: " + f, Modifier.isFinal(f.getModifiers()));
        } else {
          fields++;
        }
      }
      check("some twenty fields: " + c, fields <= 22);
      check("static, not public: " + c, Modifier.isStatic(c.getModifiers())
          && !Modifier.isPublic(c.getModifiers()) && !Modifier.isProtected(c.getModifiers()));
    }
  }

  static void source() throws Exception {
    List<String> lines = Files.readAllLines(Path.of("src/main/java/FerryBells.java"));
    int start = -1;
    for (int i = 0; i < lines.size(); i++) {
      String line = lines.get(i);
      for (String word : NOT_LEFT) {
        check("line " + (i + 1) + " bears " + word, !line.contains(word));
      }
      check("signs 1 to 127 in line " + (i + 1), line.chars().allMatch(c -> c < 128));
      if (line.matches(" {2,4}[A-Za-z].*\\) ?(throws .*)?\\{")) {
        start = i;
      }
      if (start >= 0 && line.matches(" {2,4}\\}")) {
        check("a method of over 60 lines ends in " + (i + 1), i - start < 60);
        start = -1;
      }
    }
  }

  public static void main(String[] args) throws Exception {
    face();
    classesInside();
    source();
    System.out.println(wrong == 0 ? "the face is as told" : wrong + " things are not as told");
    if (wrong != 0) {
      System.exit(1);
    }
  }
}
