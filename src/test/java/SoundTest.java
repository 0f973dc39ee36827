import java.lang.reflect.Field;
import java.util.List;

/** No run of calls makes isSound answer false; so the words of a code are spoilt from within here. */
public final class SoundTest {
  private static int wrong = 0;

  private static Object field(Object of, String name) throws Exception {
    Field field = of.getClass().getDeclaredField(name);
    field.setAccessible(true);
    return field.get(of);
  }

  private static void spoil(Shortsign s, String row, int sign, int value) throws Exception {
    Object code = ((List<?>) field(s, "codeList")).get(0);
    ((int[]) field(field(code, row), "cells"))[sign] = value;
  }

  private static Shortsign with(char kind) {
    Shortsign s = new Shortsign();
    s.typeMore(2, 'b', 'b', 'a', 'a', 'a', 'a', 'a', 'a');
    s.set('a', 1);
    s.set('b', 1);
    if (kind == 'h') s.least();
    if (kind == 'b') s.bounded(1);
    if (kind == 'o') s.ordered();
    if (kind == 't') s.triple();
    if (kind == 'k') s.byLengths();
    return s;
  }

  private static void due(boolean want, Shortsign s, String what) {
    if (s.isSound() != want) {
      wrong++;
      System.out.println(what + ": isSound answered " + !want);
    }
  }

  public static void main(String[] args) throws Exception {
    for (char kind : "hbotk".toCharArray()) {
      due(true, with(kind), "code " + kind);

      Shortsign notFull = with(kind);
      spoil(notFull, "lengths", 0, 2);
      due(kind == 't' || kind == 'k', notFull, "code " + kind + ", a 00 and b 1");

      Shortsign alike = with(kind);
      spoil(alike, "words", 0, 1);
      due(false, alike, "code " + kind + ", a 1 and b 1");

      Shortsign begun = with(kind);
      spoil(begun, "lengths", 1, 2);
      due(false, begun, "code " + kind + ", a 0 and b 01");

      Shortsign begins = with(kind);
      spoil(begins, "lengths", 0, 2);
      spoil(begins, "words", 1, 0);
      due(false, begins, "code " + kind + ", a 00 and b 0");
    }
    for (char kind : "tk".toCharArray()) {
      Shortsign empty = with(kind);
      spoil(empty, "lengths", 0, 0);
      due(false, empty, "code " + kind + ", a empty and b 1");
    }
    System.out.println(wrong == 0 ? "isSound tells what is not sound" : wrong + " answers are not as due");
    if (wrong != 0) System.exit(1);
  }
}
