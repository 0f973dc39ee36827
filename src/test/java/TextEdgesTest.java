/** The edges of promises 1 to 10: texts and counts. */
public final class TextEdgesTest extends Checks {
  private static final String ALL = "abcdefghijklmnopqrstuvwxyz";
  private static final String FULL = ALL.repeat(5).substring(0, 120);
  private static final char[] NO_SIGNS = {0, '`', '{', 'A', 'Z', '0', ' ', 127, 255, 'a' + 256, 'z' + 256, 0xff61, 0xffff};

  private static int more(Shortsign s, int many, String signs) {
    return s.typeMore(many, signs.charAt(0), signs.charAt(1), signs.charAt(2), signs.charAt(3), signs.charAt(4),
        signs.charAt(5), signs.charAt(6), signs.charAt(7));
  }

  static void aNewObject() {
    tested = "promise 1";
    edge("codes without any", () -> {
      due(0, new Shortsign().codes());
      due(0, new Shortsign().forget());
      refuses(INDEX, Shortsign::new, s -> s.kindOf(0));
    });
    edge("with an empty typed row", () -> {
      due(0, new Shortsign().length());
      due(0, new Shortsign().wipe());
      refuses(INDEX, Shortsign::new, s -> s.typed(0));
    });
    edge("with an empty stream", () -> {
      due(0, new Shortsign().streamBits());
      due(0, new Shortsign().written());
      refuses(INDEX, Shortsign::new, s -> s.bitAt(0));
      refuses(INDEX, Shortsign::new, s -> s.byteAt(0));
    });
    edge("each sign has a count, 0 at first", () -> {
      Shortsign s = new Shortsign();
      for (char sign : ALL.toCharArray()) due(0, s.count(sign));
      due(0, s.clear());
    });
    edge("two objects have nothing of each other", () -> {
      Shortsign one = typing("abc");
      Shortsign other = new Shortsign();
      one.take();
      one.least();
      one.write(0);
      due(0, other.length() + other.count('a') + other.codes() + other.streamBits());
    });
    edge("an object is used for at most 512 calls", () -> {
      Shortsign s = counting(1, 2);
      for (int call = 3; call + 3 <= 512; call += 3) {
        due(0, s.least());
        due(1, s.codes());
        due(1, s.forget());
      }
      due(0, s.ordered());
      due(3, s.clear());
      due(1, s.wordLength(0, 'b'));
    });
  }

  static void type() {
    tested = "promise 2";
    edge("the least sign is a, the greatest one z", () -> {
      Shortsign s = new Shortsign();
      due(1, s.type('a'));
      due(2, s.type('z'));
      due("az", text(s));
    });
    edge("each sign is typed as itself", () -> due(ALL, text(typing(ALL))));
    edge("IllegalArgumentException if there is no such sign", () -> {
      for (char no : NO_SIGNS) refuses(ARGUMENT, () -> typing("ab"), s -> s.type(no));
    });
    edge("at most 120 signs: the last one", () -> {
      Shortsign s = typing(FULL.substring(1));
      due(120, s.type('q'));
      due('q', s.typed(119));
      due('b', s.typed(0));
    });
    edge("IllegalStateException if 120 are typed", () -> refuses(STATE, () -> typing(FULL), s -> s.type('a')));
    edge("no such sign, and 120 are typed", () -> {
      refuses(ARGUMENT, () -> typing(FULL), s -> s.type('`'));
      refuses(ARGUMENT, () -> typing(FULL), s -> s.type('{'));
    });
    edge("as many again after wipe", () -> {
      Shortsign s = typing(FULL);
      s.wipe();
      for (int typed = 1; typed <= 120; typed++) due(typed, s.type('b'));
    });
  }

  static void typeMore() {
    tested = "promise 3";
    edge("many: 1 is the least", () -> {
      Shortsign s = typing("q");
      due(2, more(s, 1, "zbcdefgh"));
      due("qz", text(s));
    });
    edge("many: 8 is the greatest", () -> {
      Shortsign s = typing("q");
      due(9, more(s, 8, "zbcdefga"));
      due("qzbcdefga", text(s));
    });
    edge("IllegalArgumentException if the number is out of range", () -> {
      for (int no : new int[] {0, 9, -1, -8, 120, LOWEST, HIGHEST}) {
        refuses(ARGUMENT, () -> typing("ab"), s -> more(s, no, "abcdefgh"));
      }
    });
    edge("or there is no such sign, at each place that is typed", () -> {
      for (int many = 1; many <= 8; many++) {
        for (int place = 0; place < many; place++) {
          int typed = many;
          for (String no : new String[] {"`", "{"}) {
            String signs = "azazazaz".substring(0, place) + no + "azazazaz".substring(place + 1);
            refuses(ARGUMENT, () -> typing("b"), s -> more(s, typed, signs));
          }
        }
      }
    });
    edge("no such sign in none of the forms", () -> {
      for (char no : NO_SIGNS) refuses(ARGUMENT, () -> typing("b"), s -> more(s, 2, "a" + no + "cdefgh"));
    });
    edge("those that are not typed are not looked at", () -> {
      for (int many = 1; many < 8; many++) {
        Shortsign s = typing("m");
        String signs = "azazazaz".substring(0, many);
        due(1 + many, more(s, many, signs + "`{\0AZ09\uffff"));
        due("m" + signs, text(s));
      }
    });
    edge("as many as there is room for", () -> {
      for (int many = 1; many <= 8; many++) {
        Shortsign s = typing(FULL.substring(many));
        due(120, more(s, many, "zyxwvuts"));
        due(FULL.substring(many) + "zyxwvuts".substring(0, many), text(s));
      }
    });
    edge("IllegalStateException if more than 120 would be typed", () -> {
      for (int many = 1; many <= 8; many++) {
        int over = many;
        refuses(STATE, () -> typing(FULL.substring(over - 1)), s -> more(s, over, "abcdefgh"));
        refuses(STATE, () -> typing(FULL), s -> more(s, over, "abcdefgh"));
      }
    });
    edge("the number out of range, and more than 120 would be typed", () -> {
      refuses(ARGUMENT, () -> typing(FULL), s -> more(s, 9, "abcdefgh"));
      refuses(ARGUMENT, () -> typing(FULL), s -> more(s, 0, "abcdefgh"));
      refuses(ARGUMENT, () -> typing(FULL), s -> more(s, HIGHEST, "abcdefgh"));
    });
    edge("no such sign, and more than 120 would be typed", () -> {
      refuses(ARGUMENT, () -> typing(FULL), s -> more(s, 1, "{bcdefgh"));
      refuses(ARGUMENT, () -> typing(FULL.substring(7)), s -> more(s, 8, "abcdefg`"));
    });
  }

  static void wipeAndLength() {
    tested = "promise 4";
    edge("how many signs it had: none", () -> due(0, new Shortsign().wipe()));
    edge("how many signs it had: one", () -> due(1, typing("z").wipe()));
    edge("how many signs it had: 120", () -> due(120, typing(FULL).wipe()));
    edge("empties the typed row", () -> {
      Shortsign s = typing(FULL);
      s.wipe();
      due(0, s.length());
      due(0, s.wipe());
      refused(INDEX, s, () -> s.typed(0));
    });
    edge("empties the typed row alone", () -> {
      Shortsign s = written("bcc", "abc");
      s.set('a', 7);
      s.wipe();
      due(7, s.count('a'));
      due(1, s.codes());
      due("01011", stream(s));
      due(3, s.written());
    });
    tested = "promise 5";
    edge("none", () -> due(0, new Shortsign().length()));
    edge("one", () -> due(1, typing("z").length()));
    edge("120", () -> due(120, typing(FULL).length()));
  }

  static void typed() {
    tested = "promise 6";
    edge("its place, from 0", () -> due('x', typing("xyz").typed(0)));
    edge("the last place", () -> {
      due('z', typing("xyz").typed(2));
      due('p', typing(FULL).typed(119));
    });
    edge("IndexOutOfBoundsException if there is none", () -> {
      for (int no : new int[] {-1, 3, 4, 119, 120, LOWEST, HIGHEST}) refuses(INDEX, () -> typing("xyz"), s -> s.typed(no));
    });
    edge("none in an empty row", () -> {
      for (int no : new int[] {-1, 0, 1}) refuses(INDEX, Shortsign::new, s -> s.typed(no));
    });
    edge("none beyond a full row", () -> {
      for (int no : new int[] {-1, 120, 121}) refuses(INDEX, () -> typing(FULL), s -> s.typed(no));
    });
    edge("none where one was typed ahead of wipe", () -> refuses(INDEX, () -> {
      Shortsign s = typing("xyz");
      retype(s, "w");
      return s;
    }, s -> s.typed(1)));
  }

  static void set() {
    tested = "promise 7";
    edge("the least sign is a, the greatest one z", () -> {
      Shortsign s = new Shortsign();
      due(0, s.set('a', 3));
      due(0, s.set('z', 4));
      due(3, s.count('a'));
      due(4, s.count('z'));
      due(0, s.count('b') + s.count('y'));
    });
    edge("count: 0 is the least", () -> {
      Shortsign s = counting(5);
      due(5, s.set('a', 0));
      due(0, s.count('a'));
    });
    edge("count: 9999 is the greatest", () -> {
      Shortsign s = counting(5);
      due(5, s.set('a', 9999));
      due(9999, s.set('a', 9999));
      due(9999, s.count('a'));
    });
    edge("the one ahead of it, 0 at first", () -> due(0, new Shortsign().set('m', 9999)));
    edge("IllegalArgumentException if there is no such sign", () -> {
      for (char no : NO_SIGNS) refuses(ARGUMENT, () -> counting(1, 2), s -> s.set(no, 3));
    });
    edge("or the count is out of range", () -> {
      for (int no : new int[] {-1, 10000, -9999, LOWEST, HIGHEST}) refuses(ARGUMENT, () -> counting(1, 2), s -> s.set('b', no));
    });
    edge("no such sign, and the count is out of range", () -> refuses(ARGUMENT, () -> counting(1), s -> s.set('{', -1)));
    edge("as many signs as there are may have a count", () -> {
      Shortsign s = countingAlike(26, 9999);
      for (char sign : ALL.toCharArray()) due(9999, s.count(sign));
    });
    edge("a typed sign stays without a count", () -> due(0, typing("a").count('a')));
    tested = "promise 8";
    edge("the least sign is a, the greatest one z", () -> {
      Shortsign s = counting(9999);
      s.set('z', 1);
      due(9999, s.count('a'));
      due(1, s.count('z'));
    });
    edge("IllegalArgumentException if there is no such sign", () -> {
      for (char no : NO_SIGNS) refuses(ARGUMENT, () -> countingAlike(26, 3), s -> s.count(no));
    });
  }

  static void takeAndClear() {
    tested = "promise 9";
    edge("an empty row: no sign has a count then", () -> {
      Shortsign s = countingAlike(26, 9999);
      due(0, s.take());
      due(0, s.clear());
    });
    edge("one sign 120 times", () -> {
      Shortsign s = typing("z".repeat(120));
      due(1, s.take());
      due(120, s.count('z'));
      due(120, s.clear());
    });
    edge("all 26 signs", () -> {
      Shortsign s = typing(FULL);
      due(26, s.take());
      due(5, s.count('a'));
      due(5, s.count('p'));
      due(4, s.count('q'));
      due(4, s.count('z'));
    });
    edge("counts of signs that are not typed become 0", () -> {
      Shortsign s = countingAlike(26, 9999);
      type(s, "mm");
      due(1, s.take());
      due(2, s.clear());
    });
    edge("a second time the same, and the typed row stays", () -> {
      Shortsign s = typing("abca");
      due(3, s.take());
      due(3, s.take());
      due(2, s.count('a'));
      due("abca", text(s));
    });
    tested = "promise 10";
    edge("all are 0 already", () -> due(0, new Shortsign().clear()));
    edge("all are 9999", () -> {
      Shortsign s = countingAlike(26, 9999);
      due(259974, s.clear());
      for (char sign : ALL.toCharArray()) due(0, s.count(sign));
      due(0, s.clear());
    });
    edge("only a, only z", () -> {
      due(7, counting(7).clear());
      Shortsign s = new Shortsign();
      s.set('z', 8);
      due(8, s.clear());
    });
    edge("codes, the typed row and the stream stay", () -> {
      Shortsign s = written("bcc", "abc");
      s.set('a', 1);
      due(1, s.clear());
      due("a0 b10 c11", words(s, 0));
      due("abc", text(s));
      due("01011", stream(s));
    });
  }

  public static void main(String[] args) {
    aNewObject();
    type();
    typeMore();
    wipeAndLength();
    typed();
    set();
    takeAndClear();
    end("");
  }
}
