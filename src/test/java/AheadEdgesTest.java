/** The edges of promises 46 to 49: ahead of coding. */
public final class AheadEdgesTest extends Checks {
  private static final String ALL = "abcdefghijklmnopqrstuvwxyz";

  private static void moves(int answer, String told, String signs) {
    Shortsign s = typing(signs);
    due(answer, s.moves());
    due(told, text(s));
  }

  private static void unmoves(int answer, String told, String signs) {
    Shortsign s = typing(signs);
    due(answer, s.unmoves());
    due(told, text(s));
  }

  private static void runs(String told, String signs) {
    Shortsign s = typing(signs);
    due(told.length(), s.runs());
    due(told, text(s));
  }

  private static void unruns(String told, String signs) {
    Shortsign s = typing(signs);
    due(told.length(), s.unruns());
    due(told, text(s));
  }

  static void moves() {
    tested = "promise 46";
    edge("nothing is typed", () -> moves(0, "", ""));
    edge("the first of the row, the last of the row", () -> {
      moves(1, "a", "a");
      moves(0, "z", "z");
    });
    edge("it comes to the front", () -> {
      moves(2, "zaa", "zzz");
      moves(0, "zbb", "zaz");
      moves(2, "abab", "abba");
    });
    edge("all that were ahead of it come one place behind", () -> {
      moves(0, "zz", "zy");
      moves(0, "cbc", "cab");
    });
    edge("all 26 signs, again and again", () -> {
      moves(1, "abcdefghijklmnopqrstuvwxyz" + "z".repeat(94), ALL.repeat(5).substring(0, 120));
      moves(0, "z".repeat(26), new StringBuilder(ALL).reverse().toString());
    });
    edge("120 like signs", () -> {
      moves(120, "a".repeat(120), "a".repeat(120));
      moves(119, "z" + "a".repeat(119), "z".repeat(120));
    });
    edge("begun anew each time", () -> {
      Shortsign s = typing("zz");
      due(1, s.moves());
      retype(s, "zz");
      due(1, s.moves());
      due("za", text(s));
    });
    edge("counts, codes and the stream stay", () -> {
      Shortsign s = written("bcc", "cab");
      s.moves();
      due("a0 b10 c11", words(s, 0));
      due("11010", stream(s));
      due(0, s.clear());
    });
  }

  static void unmoves() {
    tested = "promise 47";
    edge("nothing is typed", () -> unmoves(0, "", ""));
    edge("the first one is counted", () -> {
      unmoves(1, "a", "a");
      unmoves(1, "z", "z");
    });
    edge("like the one ahead of it, unlike it", () -> {
      unmoves(1, "zzz", "zaa");
      unmoves(3, "zaz", "zbb");
      unmoves(3, "abba", "abab");
    });
    edge("all 26 signs, again and again", () -> {
      unmoves(120, ALL.repeat(5).substring(0, 120), ALL + "z".repeat(94));
      unmoves(26, new StringBuilder(ALL).reverse().toString(), "z".repeat(26));
    });
    edge("120 like signs", () -> {
      unmoves(1, "a".repeat(120), "a".repeat(120));
      unmoves(1, "z".repeat(120), "z" + "a".repeat(119));
    });
    edge("120 signs by turns", () -> unmoves(120, "ba".repeat(60), "b".repeat(120)));
    edge("begun anew each time", () -> {
      Shortsign s = typing("z");
      s.unmoves();
      retype(s, "za");
      due(1, s.unmoves());
      due("zz", text(s));
    });
  }

  static void runs() {
    tested = "promise 48";
    edge("nothing is typed", () -> runs("", ""));
    edge("a run of one: its length less 1 is a", () -> {
      runs("za", "z");
      runs("aabaaa", "aba");
    });
    edge("a run of 26: its length less 1 is z", () -> runs("qz", "q".repeat(26)));
    edge("cut behind 26: a run of 27", () -> runs("qzqa", "q".repeat(27)));
    edge("cut behind each 26: runs of 52 and 53", () -> {
      runs("qzqz", "q".repeat(52));
      runs("qzqzqa", "q".repeat(53));
    });
    edge("a run behind one of 26", () -> runs("qzraqa", "q".repeat(26) + "rq"));
    edge("120 like signs", () -> runs("zzzzzzzzzp", "z".repeat(120)));
    edge("just 120 signs", () -> runs("aaba".repeat(30), "ab".repeat(30)));
    edge("just 120 signs of 120", () -> runs("abbb".repeat(30), "aabb".repeat(30)));
    edge("IllegalStateException if they would be more than 120", () -> {
      refuses(STATE, () -> typing("ab".repeat(30) + "a"), Shortsign::runs);
      refuses(STATE, () -> typing("ab".repeat(60)), Shortsign::runs);
      refuses(STATE, () -> typing("aabb".repeat(29) + "aba"), Shortsign::runs);
    });
    edge("a refused call leaves the row", () -> {
      Shortsign s = typing("ab".repeat(60));
      refused(STATE, s, s::runs);
      due("ab".repeat(60), text(s));
    });
  }

  static void unruns() {
    tested = "promise 49";
    edge("nothing is typed", () -> unruns("", ""));
    edge("the shortest run, the longest one", () -> {
      unruns("z", "za");
      unruns("a".repeat(26), "az");
    });
    edge("whatever runs these are", () -> {
      unruns("aaa", "aaab");
      unruns("qq", "qaqa");
    });
    edge("120 signs typed that tell fewer", () -> unruns("z".repeat(60), "za".repeat(60)));
    edge("just 120", () -> {
      unruns("a".repeat(120), "azazazazap");
      unruns("a".repeat(120), "ab".repeat(60));
      unruns("ab".repeat(21) + "c".repeat(78), "aaba".repeat(21) + "czczcz");
    });
    edge("UnsupportedOperationException if an odd number of signs is typed", () -> {
      refuses(UNSUPPORTED, () -> typing("a"), Shortsign::unruns);
      refuses(UNSUPPORTED, () -> typing("abc"), Shortsign::unruns);
      refuses(UNSUPPORTED, () -> typing("a".repeat(119)), Shortsign::unruns);
    });
    edge("IllegalStateException if they would be more than 120", () -> {
      refuses(STATE, () -> typing("azazazazaq"), Shortsign::unruns);
      refuses(STATE, () -> typing("ab".repeat(59) + "ac"), Shortsign::unruns);
      refuses(STATE, () -> typing("z".repeat(120)), Shortsign::unruns);
    });
    edge("an odd number, and more than 120", () -> {
      refuses(UNSUPPORTED, () -> typing("azazazazaqa"), Shortsign::unruns);
      refuses(UNSUPPORTED, () -> typing("z".repeat(119)), Shortsign::unruns);
    });
    edge("a refused call leaves the row", () -> {
      Shortsign s = typing("azazazazaq");
      refused(STATE, s, s::unruns);
      due("azazazazaq", text(s));
    });
    edge("the runs of 120 signs and back", () -> {
      Shortsign s = typing("aabb".repeat(30));
      s.runs();
      due(120, s.unruns());
      due("aabb".repeat(30), text(s));
    });
  }

  static void oneAfterTheOther() {
    tested = "promises 46 to 49";
    edge("nothing of a longer row is left over in a shorter one", () -> {
      Shortsign s = typing(ALL.repeat(5).substring(0, 120));
      s.moves();
      s.unmoves();
      retype(s, "zzy");
      due(4, s.runs());
      due("zbya", text(s));
      due(3, s.unruns());
      due("zzy", text(s));
      due(1, s.moves());
      due("zaz", text(s));
      due(2, s.unmoves());
      due("zzy", text(s));
    });
    edge("nothing of a refused call is left over", () -> {
      Shortsign s = typing("ab".repeat(60));
      refused(STATE, s, s::runs);
      retype(s, "b");
      due(2, s.runs());
      due("ba", text(s));
    });
    edge("back from moves and runs of all kinds", () -> {
      for (String signs : new String[] {"", "a", "z", "az", "q".repeat(60), ALL, ALL + ALL, "aab".repeat(20)}) {
        Shortsign s = typing(signs);
        s.moves();
        s.unmoves();
        due(signs, text(s));
        s.runs();
        s.unruns();
        due(signs, text(s));
      }
    });
  }

  public static void main(String[] args) {
    moves();
    unmoves();
    runs();
    unruns();
    oneAfterTheOther();
    end("");
  }
}
