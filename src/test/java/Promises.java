/** Each promise of the document by itself: ordinary inputs, the edges that it names, wrong inputs. */
public final class Promises {
  private static final int MOVE = 0;
  private static final int ONE = 1;
  private static final int SWAP = 2;
  private static final int CHAIN = 3;
  private static final int WAIT = 4;
  private static final int PAIR = 5;
  private static final int TOLD = 6;
  private static final int HIDDEN = 7;

  private static int asked = 0;
  private static int wrong = 0;

  private static void due(int promise, String call, long got, long want) {
    asked++;
    if (got != want) {
      wrong++;
      System.out.println("promise " + promise + ": " + call + " answered " + got + ", due is " + want);
    }
  }

  private static int read(OneEach x, String text) {
    x.row(7, 0, text.length());
    for (int i = 0; i < text.length(); i++) {
      x.put(7, i, text.charAt(i));
    }
    return x.town(7);
  }

  private static OneEach made(String... texts) {
    OneEach x = new OneEach();
    for (String text : texts) {
      if (read(x, text) < 0) {
        wrong++;
        System.out.println("a test's own town isn't one: " + text);
      }
    }
    return x;
  }

  private static void kept(OneEach x, int kind, int who, int other, int to) {
    x.keep(0, 1, kind, 100 * who + 10 * other + to);
  }

  private static void promise01() {
    OneEach x = new OneEach();
    due(1, "no streets", x.count(0), 0);
    due(1, "no people", x.count(1), 0);
    due(1, "law each", x.law(0, 1), 1);
    due(1, "law near", x.law(1, 0), 0);
    due(1, "law counting", x.law(2, 255), 255);
    due(1, "lawful", x.lawful(), 1);
    due(1, "worth", x.worth(), 0);
    due(1, "letters", x.letters(0), -11);
    due(1, "restore", x.restore(), -3);
  }

  private static void fault(String text, int want) {
    OneEach x = made("s1;pb;");
    due(2, "town of '" + text + "'", read(x, text), want);
    if (want < 0) {
      due(2, "streets after '" + text + "'", x.count(0), 1);
      due(2, "people after '" + text + "'", x.count(1), 1);
      due(2, "law after '" + text + "'", x.law(0, 1), 1);
      due(2, "home after '" + text + "'", x.person(0, 3), -4);
    }
  }

  private static void promise02() {
    fault("s1;", 1);
    fault("s2;pa;y011;w11 7;l30;i11;", 6);
    fault("", -1000);
    fault(";", -1000);
    fault("z", -1000);
    fault("s", -1001);
    fault("sa;", -1001);
    fault("s1", -1002);
    fault("s1s", -1002);
    fault("s1; ", -1003);
    fault("s:;", -1001);
    fault("s/;", -1001);
    fault("w00 :;", -1004);
    fault("w00 1:;", -1005);
    fault("s0;q", -1003);
    fault("y01;", -1003);
    fault("y0123;", -1004);
    fault("p;", -1001);
    fault("pi;", -1001);
    fault("paa;", -1002);
    fault("pba;", -1002);
    fault("pat;", -1003);
    fault("pat0x;", -1005);
    fault("pat00;", -1004);
    fault("paxat0;", -1004);
    fault("pax;", -1003);
    fault("pabcdefghxhg;", -1011);
    fault("w00;", -1003);
    fault("w00  1;", -1004);
    fault("w00 ;", -1004);
    fault("w00 00;", -1005);
    fault("w00 100;", -1006);
    fault("l1;", -1002);
    fault("l10ba;", -1004);
    fault("i0;", -1002);
    fault("i001;", -1003);
    fault("s0;", -2000);
    fault("s1;s5;", -2003);
    fault("s1;s1;s1;s1;s1;", -2012);
    fault("pa;pa;pa;pa;pa;pa;pa;pa;", -2021);
    fault("y000;", -2000);
    fault("y010;s1;", -2000);
    fault("s1;y010;", 2);
    fault("pat1;", -2000);
    fault("pat0;", 1);
    fault("pat9;", -2000);
    fault("paxb;", -2000);
    fault("paxab;", -2000);
    fault("pabxb;", 1);
    fault("w10 1;", -2000);
    fault("w01 1;", -2000);
    fault("w00 99;", 1);
    fault("w00 0;", 1);
    fault("l00;", -2000);
    fault("l40;", -2000);
    fault("l39abcdefgh;", 1);
    fault("i10;", -2000);
    fault("i09;", -2000);
    fault("i00;s0;pa;l00;", -2004);
    OneEach x = made("s1;pb;");
    due(2, "town(-1)", x.town(-1), -1);
    due(2, "town(8)", x.town(8), -1);
    due(2, "town of nothing", x.town(3), -11);
    x.keep(3, 1, MOVE, 0);
    due(2, "town of a move", x.town(3), -12);
    x.row(3, 1, 3);
    due(2, "town of shorts", x.town(3), -12);
    x.row(3, 2, 3);
    due(2, "town of ints", x.town(3), -12);
    x.row(3, 0, 1);
    x.put(3, 0, -1);
    due(2, "town of a byte below 0", x.town(3), -1000);
    read(x, "s1;");
    due(2, "the row stays", x.element(7, 0), 's');
    due(2, "the same row once more", x.town(7), 1);
    due(2, "streets come to those ahead", x.count(0), 3);
  }

  private static void promise03() {
    OneEach x = made("s3;s1;pab;pbcxc;i00;i10;");
    due(3, "houses", x.street(0, 0), 3);
    due(3, "houses of the other", x.street(1, 0), 1);
    due(3, "who live there", x.street(0, 1), 2);
    due(3, "nobody", x.street(1, 1), 0);
    due(3, "crafts", x.street(0, 2), 7);
    due(3, "crafts not hidden", x.street(0, 3), 3);
    due(3, "no crafts", x.street(1, 2), 0);
    due(3, "what -1", x.street(0, -1), -1);
    due(3, "what 4", x.street(0, 4), -1);
    due(3, "street 2", x.street(2, 0), -1);
    due(3, "street -1", x.street(-1, 0), -1);
  }

  private static void promise04() {
    OneEach x = made("s1;s1;s1;y200;y019;");
    due(4, "told way", x.way(0, 1), 9);
    due(4, "told way back", x.way(1, 0), 9);
    due(4, "way told back", x.way(0, 2), 0);
    due(4, "first way", x.way(2, 1), 5);
    due(4, "way of one", x.way(2, 2), 0);
    due(4, "way(3, 0)", x.way(3, 0), -1);
    due(4, "way(0, 3)", x.way(0, 3), -1);
    due(4, "way(-1, 0)", x.way(-1, 0), -1);
    due(4, "way(0, -1)", x.way(0, -1), -1);
    read(x, "s1;");
    due(4, "way of a street more", x.way(3, 0), 5);
  }

  private static void promise05() {
    OneEach x = made("s3;s1;pab;pbct0xc;w00 7;i00;");
    due(5, "crafts", x.person(1, 0), 6);
    due(5, "hides", x.person(1, 1), 4);
    due(5, "hides nothing", x.person(0, 1), 0);
    due(5, "tie", x.person(1, 2), 0);
    due(5, "no tie", x.person(0, 2), -4);
    due(5, "street", x.person(0, 3), 0);
    due(5, "none", x.person(1, 3), -4);
    due(5, "worth alone", x.person(0, 4), 13);
    due(5, "worth in none", x.person(1, 4), 0);
    x.lives(1, 0);
    due(5, "worth with another, whose hidden craft counts too", x.person(1, 4), 13);
    due(5, "worth with another", x.person(0, 4), 10);
    due(5, "what 5", x.person(0, 5), -1);
    due(5, "what -1", x.person(0, -1), -1);
    due(5, "person 2", x.person(2, 0), -1);
    due(5, "person -1", x.person(-1, 0), -1);
  }

  private static void promise06() {
    OneEach x = made("s1;s1;pa;pa;w01 99;w10 0;");
    due(6, "told", x.wish(0, 1), 99);
    due(6, "told 0", x.wish(1, 0), 0);
    due(6, "at first", x.wish(0, 0), 10);
    due(6, "person 2", x.wish(2, 0), -1);
    due(6, "person -1", x.wish(-1, 0), -1);
    due(6, "street 2", x.wish(0, 2), -1);
    due(6, "street -1", x.wish(0, -1), -1);
    read(x, "s1;");
    due(6, "of a street more", x.wish(0, 2), 10);
  }

  private static void promise07() {
    OneEach x = new OneEach();
    due(7, "each 3", x.law(0, 3), 1);
    due(7, "each 0", x.law(0, 0), -1);
    due(7, "each 4", x.law(0, 4), -1);
    due(7, "each 1", x.law(0, 1), 3);
    due(7, "near 9", x.law(1, 9), 0);
    due(7, "near -1", x.law(1, -1), -1);
    due(7, "near 10", x.law(1, 10), -1);
    due(7, "near 0", x.law(1, 0), 9);
    due(7, "counting none", x.law(2, 0), 255);
    due(7, "counting -1", x.law(2, -1), -1);
    due(7, "counting 256", x.law(2, 256), -1);
    due(7, "counting all", x.law(2, 255), 0);
    due(7, "what 3", x.law(3, 1), -1);
    due(7, "what -1", x.law(-1, 1), -1);
    read(x, "l27bh;");
    due(7, "each by a text", x.law(0, 1), 2);
    due(7, "near by a text", x.law(1, 0), 7);
    due(7, "counting by a text", x.law(2, 255), 130);
  }

  private static void promise08() {
    OneEach x = made("s1;s1;pa;pa;");
    due(8, "from none", x.lives(0, 1), 9);
    due(8, "unlawful", x.lives(1, 1), 9);
    due(8, "from a street", x.lives(1, 0), 1);
    due(8, "to none", x.lives(1, 9), 0);
    due(8, "none", x.person(1, 3), -4);
    due(8, "street 2", x.lives(0, 2), -1);
    due(8, "street -1", x.lives(0, -1), -1);
    due(8, "person 2", x.lives(2, 0), -1);
    due(8, "person -1", x.lives(-1, 0), -1);
    due(8, "still there", x.person(0, 3), 1);
  }

  private static void promise09() {
    OneEach x = made("s2;s2;s1;pa;pa;pa;i00;i11;");
    due(9, "one each", x.lawful(), 1);
    x.law(1, 5);
    due(9, "way 5 isn't below near 5", x.lawful(), 1);
    x.law(1, 6);
    due(9, "way 5 is below near 6", x.lawful(), 0);
    x.law(0, 2);
    due(9, "two each", x.lawful(), 1);
    x.lives(2, 2);
    due(9, "a third one near", x.lawful(), 0);
    x.law(2, 254);
    due(9, "the craft doesn't count", x.lawful(), 1);
    x = made("s3;paxa;pa;pab;i00;i10;");
    due(9, "hidden", x.lawful(), 1);
    x.lives(2, 0);
    due(9, "not hidden", x.lawful(), 0);
    x = made("s1;pa;pb;i00;i10;");
    due(9, "more than houses", x.lawful(), 0);
    x = made("s1;s1;pa;pbt0;i00;");
    due(9, "tied to one, in none", x.lawful(), 1);
    x.lives(1, 1);
    due(9, "tied to one elsewhere", x.lawful(), 0);
    x.lives(0, 9);
    due(9, "tied to one in none", x.lawful(), 1);
    x = made("s3;pa;pa;pa;pa;l30a;i00;i10;i20;");
    due(9, "three each", x.lawful(), 1);
    x = made("s4;pa;pa;pa;pa;l30a;i00;i10;i20;i30;");
    due(9, "four, three each", x.lawful(), 0);
  }

  private static void promise10() {
    OneEach x = made("s2;s2;s2;pa;pa;pb;pbt0;i01;i11;i22;i32;");
    due(10, "the least of two", x.firstUnlawful(), 1);
    x.lives(0, 9);
    due(10, "the other", x.firstUnlawful(), 2);
    x.lives(2, 0);
    due(10, "none", x.firstUnlawful(), -4);
    x.lives(0, 0);
    due(10, "only ties", x.firstUnlawful(), 9);
    x = made("s1;s1;pa;pb;i01;i11;");
    due(10, "houses", x.firstUnlawful(), 1);
    x = made("s1;s1;s1;pa;pa;i00;i12;y014;y124;y029;l15a;");
    due(10, "an empty street between two", x.firstUnlawful(), 1);
  }

  private static void promise11() {
    OneEach x = made("s4;s4;pab;pbc;pcxc;w00 20;w10 0;w20 5;");
    due(11, "all in none", x.worth(), 0);
    x.lives(0, 0);
    due(11, "one", x.worth(), 26);
    x.lives(1, 0);
    due(11, "two, one craft both have", x.worth(), 26);
    x.lives(2, 0);
    due(11, "three, a hidden craft", x.worth(), 28);
    x.lives(2, 1);
    due(11, "in two streets", x.worth(), 39);
  }

  private static void promise12() {
    OneEach x = made("s4;s4;pab;pbc;w00 20;i10;i01;");
    due(12, "where the other is", x.worthIn(0, 0), 23);
    due(12, "where it is", x.worthIn(0, 1), 16);
    due(12, "with the other as it is", x.worthIn(1, 1), 13);
    due(12, "nobody moved", x.person(0, 3), 1);
    due(12, "street 9", x.worthIn(0, 9), -1);
    due(12, "street 2", x.worthIn(0, 2), -1);
    due(12, "street -1", x.worthIn(0, -1), -1);
    due(12, "person 2", x.worthIn(2, 0), -1);
    due(12, "person -1", x.worthIn(-1, 0), -1);
  }

  private static void wants(OneEach x, String told, int wanted, int may) {
    due(13, told + " wanted", x.wanted(0, 0), wanted);
    due(13, told + " may be", x.wanted(0, 1), may);
  }

  private static void promise13() {
    OneEach x = made("s1;s2;pa;pa;pb;w01 30;w00 20;w11 5;i00;i11;");
    kept(x, ONE, 0, 0, 1);
    wants(x, "to a better street with the same craft", 1, 0);
    kept(x, ONE, 2, 0, 1);
    wants(x, "from none", 1, 1);
    kept(x, ONE, 0, 0, 0);
    wants(x, "where it is", 0, 1);
    kept(x, SWAP, 0, 1, 9);
    wants(x, "swap", 1, 1);
    kept(x, SWAP, 1, 0, 9);
    wants(x, "swap back to back", 1, 1);
    kept(x, SWAP, 0, 2, 0);
    wants(x, "swap with one in none", 0, 1);
    kept(x, MOVE, 0, 0, 9);
    wants(x, "a move", 0, 1);
    OneEach same = made("s1;s1;pa;pb;w01 20;i00;i11;");
    kept(same, SWAP, 0, 1, 0);
    wants(same, "swap, no more worth for one", 0, 1);
    same = made("s2;s2;pa;pa;pa;w00 23;w01 20;l30;i00;i21;");
    kept(same, ONE, 0, 0, 1);
    wants(same, "one, no more worth", 0, 1);
    kept(same, ONE, 1, 0, 1);
    wants(same, "one, from none", 1, 1);
    kept(x, TOLD, 0, 9, 9);
    wants(x, "told", 1, 1);
    kept(x, TOLD, 2, 9, 9);
    wants(x, "told in none", 0, 1);
    kept(x, WAIT, 2, 0, 0);
    wants(x, "wait for a full street", 0, 1);
    kept(x, WAIT, 2, 0, 1);
    wants(x, "wait for a street with room", 1, 1);
    kept(x, CHAIN, 1, 0, 0);
    wants(x, "chain", 1, 1);
    kept(x, CHAIN, 2, 0, 0);
    wants(x, "chain from none", 0, 1);
    kept(x, PAIR, 0, 2, 1);
    wants(x, "pair", 1, 0);
    kept(x, HIDDEN, 0, 0, 1);
    wants(x, "hidden to full houses of a craft", 1, 1);
    due(13, "hides nothing by it", x.person(0, 1), 0);
    due(13, "nobody moved", x.street(0, 1), 1);
    kept(x, MOVE, 3, 0, 0);
    due(13, "a move's who", x.wanted(0, 0), -13);
    kept(x, TOLD, 9, 0, 0);
    due(13, "told who", x.wanted(0, 1), -13);
    kept(x, SWAP, 0, 3, 0);
    due(13, "a swap's other", x.wanted(0, 0), -13);
    kept(x, PAIR, 0, 3, 0);
    due(13, "a pair's other", x.wanted(0, 0), -13);
    kept(x, PAIR, 0, 1, 2);
    due(13, "a pair's to", x.wanted(0, 0), -13);
    for (int kind : new int[] {ONE, CHAIN, WAIT, HIDDEN}) {
      kept(x, kind, 0, 9, 2);
      due(13, "to of kind " + kind, x.wanted(0, 0), -13);
      kept(x, kind, 3, 9, 0);
      due(13, "who of kind " + kind, x.wanted(0, 0), -13);
      kept(x, kind, 0, 9, 1);
      due(13, "other of kind " + kind + " doesn't matter", x.wanted(0, 1), kind == HIDDEN ? 1 : 0);
    }
    due(13, "what 2", x.wanted(0, 2), -1);
    due(13, "what -1", x.wanted(0, -1), -1);
    due(13, "shelf -1", x.wanted(-1, 0), -1);
    due(13, "shelf 8", x.wanted(8, 0), -1);
    due(13, "nothing", x.wanted(5, 0), -11);
    due(13, "nothing, what 2", x.wanted(5, 2), -1);
    due(13, "a row", x.wanted(7, 0), -12);
  }

  private static void promise14() {
    OneEach x = made("s1;s2;s1;pa;pb;pc;w01 30;w10 30;w20 1;i00;i11;i21;");
    kept(x, ONE, 0, 0, 1);
    due(14, "no room", x.move(0), -3);
    kept(x, SWAP, 0, 1, 0);
    due(14, "swap", x.move(0), 2);
    due(14, "who of the swap", x.person(0, 3), 1);
    due(14, "other of the swap", x.person(1, 3), 0);
    due(14, "swap back isn't wanted", x.move(0), -3);
    kept(x, TOLD, 2, 0, 0);
    due(14, "told", x.move(0), 1);
    due(14, "told is in none", x.person(2, 3), -4);
    kept(x, HIDDEN, 2, 0, 1);
    due(14, "hidden", x.move(0), 1);
    due(14, "it hides all", x.person(2, 1), 4);
    due(14, "the move stays", x.letters(0), 5);
    kept(x, HIDDEN, 0, 0, 1);
    due(14, "hidden where it is", x.move(0), -3);
    due(14, "it hides nothing then", x.person(0, 1), 0);
    kept(x, PAIR, 1, 2, 2);
    due(14, "pair to one house", x.move(0), -3);
    kept(x, MOVE, 0, 0, 0);
    due(14, "a move", x.move(0), -3);
    kept(x, ONE, 0, 0, 3);
    due(14, "no such street", x.move(0), -13);
    due(14, "shelf 8", x.move(8), -1);
    due(14, "shelf -1", x.move(-1), -1);
    due(14, "nothing", x.move(6), -11);
    due(14, "a row", x.move(7), -12);
    x = made("s2;s4;pa;pb;pc;w01 50;w11 50;w20 40;w21 2;i00;i10;i21;");
    kept(x, CHAIN, 2, 0, 0);
    due(14, "chain", x.move(0), 2);
    due(14, "the least one there went", x.person(0, 3), 1);
    due(14, "the other one stays", x.person(1, 3), 0);
    due(14, "who is there", x.person(2, 3), 0);
    kept(x, CHAIN, 1, 0, 1);
    due(14, "chain to a street with room", x.move(0), 1);
    x = made("s2;s4;pa;pb;pc;w01 50;w11 50;i00;i10;");
    kept(x, PAIR, 1, 0, 1);
    due(14, "pair", x.move(0), 2);
    due(14, "who of the pair", x.person(1, 3), 1);
    due(14, "other of the pair", x.person(0, 3), 1);
    kept(x, WAIT, 2, 0, 1);
    due(14, "wait with room", x.move(0), 1);
    due(14, "one waited for room", x.street(1, 1), 3);
  }

  private static int judged(OneEach x, int... twos) {
    x.row(2, 0, twos.length);
    for (int i = 0; i < twos.length; i++) {
      x.put(2, i, twos[i]);
    }
    return x.judge(2);
  }

  private static void promise15() {
    OneEach x = made("s1;s1;pa;pb;w01 30;w10 20;i00;i11;");
    due(15, "nothing to do", judged(x), -4);
    due(15, "no room", judged(x, 0, 1), 0);
    due(15, "to none, then the place is free", judged(x, 1, 9, 0, 1, 1, 0), -4);
    due(15, "nobody moved", x.person(0, 3), 0);
    due(15, "odd", judged(x, 1, 9, 0), 3);
    due(15, "odd, one is wrong ahead", judged(x, 1, 9, 0, 0, 1), 2);
    due(15, "not wanted", judged(x, 1, 9, 0, 1, 0, 0), 4);
    due(15, "where it is", judged(x, 0, 0), 0);
    due(15, "to none twice", judged(x, 0, 9, 0, 9), -4);
    due(15, "no such person", judged(x, 1, 9, 2, 9), 2);
    due(15, "person below 0", judged(x, -1, 9), 0);
    due(15, "no such street", judged(x, 1, 9, 0, 2), 2);
    due(15, "street below 0", judged(x, 0, -1), 0);
    due(15, "shelf 8", x.judge(8), -1);
    due(15, "shelf -1", x.judge(-1), -1);
    due(15, "nothing", x.judge(5), -11);
    x.keep(5, 1, ONE, 0);
    due(15, "a move", x.judge(5), -12);
    x.row(5, 1, 2);
    due(15, "shorts", x.judge(5), -12);
    x.lives(1, 0);
    due(15, "unlawful after told too", judged(x, 0, 0), 0);
    x = made("s1;pa;pb;pc;i00;i10;i20;");
    due(15, "to none, still unlawful", judged(x, 0, 9), 0);
  }

  private static void promise16() {
    OneEach x = made("s1;s1;pa;pa;pa;");
    due(16, "most", x.most(-1), 2);
    due(16, "the first in the first", x.most(0), 0);
    due(16, "the second in the second", x.most(1), 1);
    due(16, "the third in none", x.most(2), -4);
    due(16, "person 3", x.most(3), -1);
    due(16, "person -2", x.most(-2), -1);
    due(16, "in mind", x.count(3), 0);
    x = made("s1;s1;pa;pb;pc;");
    x.image();
    read(x, "s1;s1;pd;pe;");
    due(16, "more people", x.most(-1), 4);
    x.restore();
    due(16, "fewer people", x.most(-1), 2);
    due(16, "still the first of them", x.most(1), 1);
    due(16, "still the first of them, in none", x.most(2), -4);
    x = made("s4;pab;pa;pb;");
    due(16, "none last, but most ahead", x.most(0), -4);
    due(16, "two for one", x.most(-1), 2);
    x = made("s1;s2;pa;pbt0;pc;");
    due(16, "tied", x.most(-1), 3);
    due(16, "tied where the other is", x.most(0), 1);
    due(16, "tied where the other is too", x.most(1), 1);
    due(16, "what is left", x.most(2), 0);
    x = made("s4;s4;pa;paxa;pa;l16a;");
    due(16, "near and hidden", x.most(-1), 2);
    due(16, "without anybody", new OneEach().most(-1), 0);
    due(16, "without anybody, one", new OneEach().most(0), -1);
  }

  private static void promise17() {
    OneEach x = made("s1;s1;pa;pa;pa;w00 5;w01 50;w10 60;w11 60;w20 9;w21 52;");
    due(17, "best", x.best(-1), 112);
    due(17, "in none", x.best(0), -4);
    due(17, "in the first", x.best(1), 0);
    due(17, "in the second", x.best(2), 1);
    due(17, "person 3", x.best(3), -1);
    due(17, "person -2", x.best(-2), -1);
    due(17, "in mind", x.count(3), 0);
    x = made("s2;s2;pa;w00 0;w01 0;");
    due(17, "no wishes", x.best(-1), 0);
    due(17, "streets ahead of none", x.best(0), 0);
    x = made("s2;s2;pa;pbt0;w01 30;w10 25;");
    due(17, "a tie", x.best(-1), 40);
    due(17, "a tie of one", x.best(0), 1);
    due(17, "a tie of the other", x.best(1), 1);
    due(17, "without anybody", new OneEach().best(-1), 0);
  }

  private static void promise18() {
    OneEach x = made("s1;s1;pa;pa;w00 5;w01 50;w10 60;i00;i11;");
    due(18, "a swap is open", x.stable(), 0);
    x.lives(0, 1);
    x.lives(1, 0);
    due(18, "stable", x.stable(), 1);
    x.lives(1, 9);
    due(18, "a one is open", x.stable(), 0);
    x = made("s1;s2;pa;pb;w00 20;w01 30;w10 25;w11 5;i00;i11;");
    due(18, "swap, chain", x.stable(), 0);
    x = made("s1;s2;pa;pb;pcd;pa;l10acd;w01 30;w10 25;w11 5;i00;i11;i21;");
    due(18, "a chain or a swap where a one is full", x.stable(), 0);
    x = made("s1;pa;pa;i00;");
    due(18, "no room for one in none", x.stable(), 1);
    x = made("s2;pa;pb;pa;i00;i10;i20;");
    due(18, "unlawful, none helps", x.stable(), 1);
    due(18, "without anybody", new OneEach().stable(), 1);
  }

  private static void promise19() {
    OneEach x = made("s1;s1;s1;pa;pa;w00 10;w01 20;w02 30;w12 40;");
    due(19, "how many", x.found(-1), 4);
    due(19, "the first went up", x.found(0), 2);
    due(19, "the second follows to the first street, no further", x.found(1), 0);
    due(19, "person 2", x.found(2), -1);
    due(19, "person -2", x.found(-2), -1);
    due(19, "in mind", x.count(3), 0);
    x = made("s1;pa;pa;");
    due(19, "one in none", x.found(1), -4);
    due(19, "none to do", new OneEach().found(-1), 0);
    x = made("s4;s4;s4;s4;s4;pa;pab;pa;pab;pa;pa;pa;pab;l30;");
    String[] wishes = {"1114171619", "1112131314", "1012162015", "1112151922", "1013171423", "1012152015",
        "1112161323", "1112152022"};
    for (int i = 0; i < 40; i++) {
      int at = i % 5 * 2;
      read(x, "w" + i / 5 + i % 5 + " " + wishes[i / 5].substring(at, at + 2) + ";");
    }
    due(19, "it would go on; forty at most", x.found(-1), 40);
    due(19, "the last is where the fortieth took it", x.found(7), 2);
    x = made("s2;s2;pabc;pa;w00 10;w01 10;w10 10;w11 13;l20;i00;i10;");
    due(19, "one goes, the other is followed", x.found(-1), 1);
    due(19, "the first leaves", x.found(0), 1);
  }

  private static void promise20() {
    OneEach x = made("s1;s1;pa;pb;w00 0;w01 20;w10 40;w11 0;i00;i10;");
    due(20, "one step", x.shortest(-1), 1);
    due(20, "the first one", x.shortest(0), 1);
    due(20, "no second", x.shortest(1), -4);
    due(20, "no third", x.shortest(2), -4);
    due(20, "no fourth", x.shortest(3), -4);
    due(20, "none far behind", x.shortest(Integer.MAX_VALUE), -4);
    due(20, "i -2", x.shortest(-2), -1);
    due(20, "i far below", x.shortest(Integer.MIN_VALUE), -1);
    due(20, "in mind", x.person(0, 3), 0);
    x = made("s1;s1;pa;pb;w00 5;w01 20;w10 40;w11 10;i00;i11;");
    due(20, "two steps", x.shortest(-1), 2);
    due(20, "first who goes to a full street", x.shortest(0), 1);
    due(20, "then the other", x.shortest(1), 10);
    due(20, "no third of two", x.shortest(2), -4);
    x = made("s1;s1;s1;pa;pa;pa;w00 5;w01 20;w02 0;w10 0;w11 5;w12 20;w20 20;w21 0;w22 5;i00;i11;i22;");
    due(20, "three steps", x.shortest(-1), 3);
    due(20, "the first of three", x.shortest(0), 1);
    due(20, "the second of three", x.shortest(1), 12);
    due(20, "the third of three", x.shortest(2), 20);
    due(20, "no fourth of three", x.shortest(3), -4);
    due(20, "i -2 of three", x.shortest(-2), -1);
    x = made("s1;s1;s1;pa;pa;pb;w00 10;w01 11;w02 13;w10 12;w11 0;w12 10;w21 99;w20 0;w22 0;", "i00;i12;i21;");
    due(20, "not one twice, out of the way of another", x.shortest(-1), -4);
    x = made("s1;s1;s1;pa;pa;w00 12;w01 10;w02 0;w10 10;w11 0;w12 20;y121;l12a;i01;i10;");
    due(20, "the second makes room for the first", x.shortest(-1), 2);
    due(20, "the second ahead", x.shortest(0), 12);
    due(20, "the first behind it", x.shortest(1), 0);
    x = made("s1;pa;i00;");
    due(20, "none", x.shortest(-1), -4);
    due(20, "none, the first", x.shortest(0), -4);
    due(20, "none, the fourth", x.shortest(3), -4);
    due(20, "none, i -2", x.shortest(-2), -1);
    due(20, "without anybody", new OneEach().shortest(-1), -4);
    due(20, "without anybody, the fourth", new OneEach().shortest(3), -4);
    due(20, "without anybody, i -2", new OneEach().shortest(-2), -1);
    x = made("s2;s2;pa;pa;pa;w00 15;w01 20;w10 19;w11 20;w20 10;w21 11;l10a;i00;i10;i20;");
    due(20, "three of one craft can't be lawful in two streets", x.shortest(-1), -4);
  }

  private static void promise21() {
    OneEach x = made("s2;s1;pa;pbc;pdt0;i00;i10;");
    due(21, "a craft of the other's isn't lawful", x.learn(0), 3);
    x.law(0, 2);
    due(21, "a craft alone is worth more than one the other has", x.learn(0), 3);
    due(21, "the least of them", x.learn(1), 3);
    due(21, "in none", x.learn(2), -4);
    due(21, "nothing learned", x.person(0, 0), 1);
    x.lives(2, 1);
    due(21, "houses and ties don't matter", x.learn(2), 0);
    due(21, "person 3", x.learn(3), -1);
    due(21, "person -1", x.learn(-1), -1);
    x = made("s1;pabcdefgh;i00;");
    due(21, "has all", x.learn(0), -4);
    x = made("s4;pa;pa;pbcdefgh;i00;i10;i20;");
    due(21, "unlawful whatever it learns", x.learn(0), -4);
    x.law(2, 254);
    due(21, "none may be", x.learn(0), -4);
    x.law(2, 0);
    due(21, "those that don't count", x.learn(0), 1);
    x = made("s1;pabxa;i00;");
    due(21, "a hidden craft is its own already", x.learn(0), 2);
    x = made("s2;s2;pa;pbcd;i00;i11;l16;");
    x.law(2, 255);
    due(21, "near ones count", x.learn(0), 4);
  }

  private static void promise22() {
    OneEach x = made("s1;s2;s2;pa;pa;pb;w00 20;w01 30;w02 20;w11 15;i11;");
    due(22, "not where the craft is", x.where(0), 0);
    x.lives(2, 0);
    due(22, "not where it is full", x.where(0), 2);
    x.lives(2, 1);
    due(22, "of several the least", x.where(0), 0);
    x.lives(0, 2);
    due(22, "the others as they are", x.where(0), 0);
    due(22, "where it is", x.where(1), 1);
    due(22, "in mind", x.person(0, 3), 2);
    due(22, "person 3", x.where(3), -1);
    due(22, "person -1", x.where(-1), -1);
    x = made("s1;pa;pb;i00;");
    due(22, "none", x.where(1), -4);
    x = made("s4;s4;pa;pb;pct0;i01;i11;w20 99;");
    due(22, "where the other is", x.where(2), 1);
  }

  private static void promise23() {
    OneEach x = made("s2;s2;s2;pab;pbxb;i01;i12;y013;y029;");
    due(23, "the nearest", x.walk(0, 1), 3);
    due(23, "itself", x.walk(1, 1), 0);
    due(23, "a hidden one", x.walk(2, 1), 0);
    due(23, "another", x.walk(2, 0), 5);
    due(23, "none", x.walk(0, 2), -4);
    x.lives(0, 9);
    due(23, "none in streets", x.walk(0, 0), -4);
    due(23, "no shorter by others", x.walk(0, 1), 9);
    due(23, "street 3", x.walk(3, 0), -1);
    due(23, "street -1", x.walk(-1, 0), -1);
    due(23, "craft 8", x.walk(0, 8), -1);
    due(23, "craft -1", x.walk(0, -1), -1);
  }

  private static void promise24() {
    OneEach x = made("s4;s4;s4;pa;pa;pa;pa;i00;y013;y020;");
    due(24, "the only one", x.price(0, 0), 30);
    x.lives(1, 0);
    due(24, "two there", x.price(0, 0), 25);
    x.lives(2, 1);
    due(24, "another near", x.price(0, 0), 11);
    due(24, "of the other", x.price(1, 0), 16);
    x.lives(3, 2);
    due(24, "another nearer", x.price(0, 0), 5);
    x.lives(2, 0);
    due(24, "three there", x.price(0, 0), 0);
    due(24, "nobody there", x.price(1, 0), 0);
    due(24, "another craft", x.price(0, 1), 0);
    read(x, "pa;pa;i40;");
    due(24, "not below 0", x.price(0, 0), 0);
    due(24, "street 3", x.price(3, 0), -1);
    due(24, "street -1", x.price(-1, 0), -1);
    due(24, "craft 8", x.price(0, 8), -1);
    due(24, "craft -1", x.price(0, -1), -1);
  }

  private static void promise25() {
    OneEach x = made("s4;s4;pabh;pbcxc;pcd;");
    due(25, "all in none", x.alone(), 0);
    x.lives(0, 0);
    due(25, "one", x.alone(), 3);
    x.lives(1, 1);
    due(25, "in other streets too, hidden too", x.alone(), 3);
    x.lives(2, 0);
    due(25, "three", x.alone(), 3);
    due(25, "none at all", new OneEach().alone(), 0);
  }

  /** In Java's own long numbers, so that the draws are reckoned another way. */
  private static int[] draws(int z, int n) {
    int[] drawn = new int[n];
    long at = z & 0xFFFFFFFFL;
    for (int i = 0; i < n; i++) {
      at = (at * 1103515245L + 12345L) % 4294967296L;
      drawn[i] = (int) (at % 2147483648L / 65536L % 100L);
    }
    return drawn;
  }

  private static void promise26() {
    OneEach x = made("s1;pa;i00;");
    for (int z : new int[] {0, 1, -1, 77, Integer.MIN_VALUE, Integer.MAX_VALUE}) {
      int went = 0;
      for (int drawn : draws(z, 30)) {
        went += drawn < 40 ? 1 : 0;
      }
      due(26, "who went of one, by " + z, x.years(30, z, 40, 1), went);
      due(26, "it comes again at once", x.years(30, z, 40, 0), 0);
    }
    due(26, "no deaths", x.years(1, 5, 0, 1), 0);
    due(26, "in mind", x.person(0, 3), 0);
    x = made("s1;pa;pb;w00 1;i10;");
    due(26, "one waits", x.years(1, 3, 0, 0), 1);
    int first = draws(3, 1)[0];
    due(26, "the first takes the place of the other", x.years(1, 3, first + 1, 1), 1);
    due(26, "not at the draw itself", x.years(1, 3, first, 1), 0);
    for (int[] bad : new int[][] {{0, 0, 0}, {31, 0, 0}, {-1, 0, 0}, {1, -1, 0}, {1, 100, 0}, {1, 0, 2}, {1, 0, -1}}) {
      due(26, "out of range", x.years(bad[0], 1, bad[1], bad[2]), -1);
    }
    due(26, "death 99", x.years(30, 1, 99, 0), 1);
    due(26, "without anybody", new OneEach().years(30, 1, 50, 0), 0);
  }

  private static void promise27() {
    OneEach x = made("s1;pa;pb;i10;");
    due(27, "waits all years", x.waits(0, 30, 9, 0), 30);
    due(27, "never waits", x.waits(1, 30, 9, 0), 0);
    int[] drawn = draws(9, 30);
    int year = 0;
    while (year < 30 && drawn[year] >= 3) {
      year++;
    }
    due(27, "the first waits until the second goes", x.waits(0, 30, 9, 3), year);
    due(27, "the second waits from then on", x.waits(1, 30, 9, 3), 30 - year);
    due(27, "so far", x.waits(0, 2, 9, 3), Math.min(2, year));
    due(27, "both can't live there", x.waits(0, 30, 9, 50) + x.waits(1, 30, 9, 50), 30);
    due(27, "person 2", x.waits(2, 1, 1, 1), -1);
    due(27, "person -1", x.waits(-1, 1, 1, 1), -1);
    due(27, "n 0", x.waits(0, 0, 1, 1), -1);
    due(27, "n 31", x.waits(0, 31, 1, 1), -1);
    due(27, "death 100", x.waits(0, 1, 1, 100), -1);
    due(27, "death -1", x.waits(0, 1, 1, -1), -1);
    due(27, "in mind", x.person(1, 3), 0);
  }

  private static void promise28() {
    OneEach x = made("s4;s1;pa;pb;pc;pd;pe;");
    due(28, "three by three", x.length(), 3);
    due(28, "houses stay", x.street(0, 0), 4);
    x = made("s1;pa;");
    due(28, "one", x.length(), 1);
    due(28, "nobody", made("s3;").length(), 1);
    x = made("s1;pa;pb;pc;pd;");
    due(28, "four", x.length(), 4);
    read(x, "pe;");
    due(28, "five in one street", x.length(), -4);
    due(28, "the law", made("s1;pa;pa;").length(), -4);
    due(28, "no streets", new OneEach().length(), -3);
    due(28, "no streets, people", made("pa;").length(), -3);
  }

  private static void promise29() {
    OneEach x = made("s1;pa;pa;pb;pc;");
    due(29, "one house", x.newly(1), 1);
    due(29, "three houses", x.newly(3), 3);
    due(29, "four houses", x.newly(4), 3);
    due(29, "no more streets by it", x.count(0), 1);
    due(29, "houses 0", x.newly(0), -1);
    due(29, "houses 5", x.newly(5), -1);
    x = made("s1;pa;pa;l16a;");
    due(29, "a street too near", x.newly(4), 0);
    x.law(1, 5);
    due(29, "a street not too near", x.newly(4), 1);
    x = made("s1;s1;s1;s1;s1;pa;");
    due(29, "five streets", x.newly(1), -2);
    due(29, "five streets, houses 0", x.newly(0), -1);
    due(29, "no streets", made("pa;pb;").newly(1), 1);
  }

  private static void promise30() {
    OneEach x = made("s4;s4;pa;pa;pa;pa;pa;");
    due(30, "one each", x.byLaw(1, 0), 2);
    due(30, "two each", x.byLaw(2, 0), 4);
    due(30, "three each", x.byLaw(3, 0), 5);
    due(30, "near", x.byLaw(2, 6), 2);
    due(30, "not near", x.byLaw(2, 5), 4);
    due(30, "the law stays", x.law(0, 1), 1);
    due(30, "the law stays near", x.law(1, 0), 0);
    x.law(2, 0);
    due(30, "what counts stays", x.byLaw(1, 9), 5);
    due(30, "each 0", x.byLaw(0, 0), -1);
    due(30, "each 4", x.byLaw(4, 0), -1);
    due(30, "near -1", x.byLaw(1, -1), -1);
    due(30, "near 10", x.byLaw(1, 10), -1);
  }

  private static void promise31() {
    OneEach x = made("s4;pa;paxa;paxa;");
    due(31, "two more by hiding", x.hiding(), 2);
    due(31, "they hide on", x.count(5), 2);
    x.law(2, 0);
    due(31, "nothing counts", x.hiding(), 0);
    due(31, "nobody", new OneEach().hiding(), 0);
  }

  private static void promise32() {
    OneEach x = made("s1;s1;pa;pb;");
    due(32, "two people", x.image(), 2);
    due(32, "nobody", new OneEach().image(), 0);
    read(x, "pc;");
    due(32, "taken once more", x.image(), 3);
    x.lives(0, 1);
    x.restore();
    due(32, "the later one", x.count(1), 3);
    due(32, "as it was then", x.person(0, 3), -4);
  }

  private static void promise33() {
    OneEach x = new OneEach();
    due(33, "none", x.restore(), -3);
    read(x, "s1;s1;pab;pbt0xb;w01 33;y017;l24ab;i01;");
    x.image();
    kept(x, HIDDEN, 0, 0, 0);
    x.lives(0, 9);
    x.move(0);
    read(x, "s4;pa;w01 2;y011;l10;i10;");
    x.keep(3, 1, ONE, 222);
    due(33, "how many", x.restore(), 2);
    due(33, "streets", x.count(0), 2);
    due(33, "people", x.count(1), 2);
    due(33, "wish", x.wish(0, 1), 33);
    due(33, "way", x.way(1, 0), 7);
    due(33, "hides", x.person(0, 1), 0);
    due(33, "home", x.person(0, 3), 1);
    due(33, "other's home", x.person(1, 3), -4);
    due(33, "tie", x.person(1, 2), 0);
    due(33, "each", x.law(0, 1), 2);
    due(33, "near", x.law(1, 0), 4);
    due(33, "counting", x.law(2, 255), 3);
    due(33, "shelves stay", x.letters(3), 3);
    due(33, "the image stays", x.restore(), 2);
    due(33, "each once more", x.law(0, 1), 2);
    read(x, "s2;pc;");
    due(33, "a street more has new ways", x.way(2, 0), 5);
    due(33, "a street more has new wishes", x.wish(0, 2), 10);
    due(33, "one more is in none", x.person(2, 3), -4);
    due(33, "one more hides nothing", x.person(2, 1), 0);
    due(33, "one more has no tie", x.person(2, 2), -4);
  }

  private static void promise34() {
    OneEach x = made("s3;s1;pa;pbt0;pcxc;pcxc;pct0;i00;i11;");
    due(34, "streets", x.count(0), 2);
    due(34, "people", x.count(1), 5);
    due(34, "houses", x.count(2), 4);
    due(34, "in streets", x.count(3), 2);
    due(34, "tied", x.count(4), 2);
    due(34, "hiding", x.count(5), 2);
    due(34, "what 6", x.count(6), -1);
    due(34, "what -1", x.count(-1), -1);
  }

  private static void promise35() {
    OneEach x = new OneEach();
    due(35, "a move", x.keep(7, 1, HIDDEN, 999), 0);
    due(35, "its letters", x.letters(7), 12);
    due(35, "wot 1000", x.keep(7, 1, ONE, 1000), -1);
    due(35, "wot -1", x.keep(7, 1, ONE, -1), -1);
    due(35, "kind 8", x.keep(7, 1, 8, 0), -1);
    due(35, "kind -1", x.keep(7, 1, -1, 0), -1);
    due(35, "what 2", x.keep(7, 2, ONE, 0), -1);
    due(35, "what -1", x.keep(7, -1, ONE, 0), -1);
    due(35, "shelf 8", x.keep(8, 0, 0, 0), -1);
    due(35, "shelf -1", x.keep(-1, 0, 0, 0), -1);
    due(35, "the move is there still", x.letters(7), 12);
    due(35, "nothing, whatever else", x.keep(7, 0, 99, -5), 0);
    due(35, "nothing is there", x.letters(7), -11);
    x.row(7, 0, 3);
    due(35, "a move for a row", x.keep(7, 1, ONE, 0), 0);
    due(35, "no row is there", x.put(7, 0, 1), -12);
  }

  private static void promise36() {
    OneEach x = new OneEach();
    due(36, "none", x.row(0, 0, 0), 0);
    due(36, "no place", x.put(0, 0, 1), -13);
    due(36, "a hundred", x.row(0, 2, 100), 0);
    due(36, "the last place", x.put(0, 99, 1), 0);
    due(36, "a row for a row", x.row(0, 2, 100), 0);
    due(36, "all are 0", x.element(0, 99), 0);
    due(36, "n 101", x.row(0, 0, 101), -1);
    due(36, "n -1", x.row(0, 0, -1), -14);
    due(36, "n least", x.row(0, 0, Integer.MIN_VALUE), -14);
    due(36, "sort 3", x.row(0, 3, 1), -1);
    due(36, "sort -1", x.row(0, -1, -1), -1);
    due(36, "shelf 8", x.row(8, 0, 1), -1);
    due(36, "shelf -1", x.row(-1, 0, -1), -1);
    due(36, "the row is there still", x.put(0, 99, 1), 0);
  }

  private static long stored(int sort, int v) {
    OneEach x = new OneEach();
    x.row(1, sort, 2);
    x.put(1, 1, v);
    return x.element(1, 1);
  }

  private static void promise37() {
    due(37, "byte 127", stored(0, 127), 127);
    due(37, "byte 128", stored(0, 128), -128);
    due(37, "byte 511", stored(0, 511), -1);
    due(37, "short 32767", stored(1, 32767), 32767);
    due(37, "short 32768", stored(1, 32768), -32768);
    due(37, "short 65536", stored(1, 65536), 0);
    due(37, "int", stored(2, Integer.MIN_VALUE), Integer.MIN_VALUE);
    OneEach x = new OneEach();
    x.row(0, 1, 3);
    due(37, "put", x.put(0, 2, 7), 0);
    due(37, "place 3", x.put(0, 3, 7), -13);
    due(37, "place -1", x.put(0, -1, 7), -13);
    due(37, "shelf 8", x.put(8, 0, 7), -1);
    due(37, "shelf -1", x.put(-1, 0, 7), -1);
    due(37, "nothing", x.put(1, 0, 7), -11);
    x.keep(1, 1, ONE, 0);
    due(37, "a move", x.put(1, 0, 7), -12);
  }

  private static int thrown(OneEach x, int d, int i) {
    try {
      x.element(d, i);
    } catch (IllegalArgumentException e) {
      return 1;
    } catch (IllegalStateException e) {
      return 2;
    }
    return 0;
  }

  private static void promise38() {
    OneEach x = new OneEach();
    x.row(0, 2, 2);
    x.put(0, 0, -5);
    due(38, "element", x.element(0, 0), -5);
    due(38, "another", x.element(0, 1), 0);
    due(38, "there", thrown(x, 0, 1), 0);
    due(38, "place 2", thrown(x, 0, 2), 2);
    due(38, "place -1", thrown(x, 0, -1), 2);
    due(38, "nothing", thrown(x, 1, 0), 2);
    x.keep(1, 1, ONE, 0);
    due(38, "a move", thrown(x, 1, 0), 2);
    due(38, "shelf 8", thrown(x, 8, 0), 1);
    due(38, "shelf -1", thrown(x, -1, -1), 1);
  }

  private static void promise39() {
    OneEach x = new OneEach();
    x.row(0, 1, 5);
    x.row(1, 1, 3);
    for (int i = 0; i < 5; i++) {
      x.put(0, i, 10 + i);
    }
    due(39, "three", x.copy(0, 1, 1, 0, 3), 3);
    due(39, "the first of them", x.element(1, 0), 11);
    due(39, "the last of them", x.element(1, 2), 13);
    due(39, "onto itself", x.copy(0, 0, 0, 1, 4), 4);
    due(39, "as they were", x.element(0, 4), 13);
    due(39, "as they were too", x.element(0, 1), 10);
    due(39, "onto itself, down", x.copy(0, 1, 0, 0, 4), 4);
    due(39, "as they were, down", x.element(0, 3), 13);
    due(39, "none at the end", x.copy(0, 5, 1, 3, 0), 0);
    due(39, "none past the end", x.copy(0, 6, 1, 3, 0), -13);
    due(39, "n -1", x.copy(0, 0, 1, 0, -1), -13);
    due(39, "i -1", x.copy(0, -1, 1, 0, 1), -13);
    due(39, "j -1", x.copy(0, 0, 1, -1, 1), -13);
    due(39, "past the first's end", x.copy(0, 3, 1, 0, 3), -13);
    due(39, "past the second's end", x.copy(0, 0, 1, 1, 3), -13);
    due(39, "far past", x.copy(0, 1, 1, 1, Integer.MAX_VALUE), -13);
    due(39, "far off", x.copy(0, Integer.MAX_VALUE, 1, 0, 1), -13);
    due(39, "shelf 8", x.copy(8, 0, 1, 0, 1), -1);
    due(39, "to shelf 8", x.copy(0, 0, 8, 0, 1), -1);
    due(39, "from nothing", x.copy(2, 0, 1, 0, 1), -11);
    due(39, "to nothing", x.copy(0, 0, 2, 0, 1), -11);
    x.keep(3, 1, ONE, 0);
    due(39, "a move to nothing", x.copy(3, 0, 2, 0, 1), -11);
    due(39, "from a move", x.copy(3, 0, 1, 0, 1), -12);
    due(39, "to a move", x.copy(0, 0, 3, 0, 1), -12);
    x.row(3, 0, 5);
    due(39, "another sort", x.copy(0, 0, 3, 0, 1), -12);
    due(39, "another sort, n -1", x.copy(0, 0, 3, 0, -1), -12);
    x.row(4, 0, 5);
    x.keep(4, 1, ONE, 0);
    due(39, "a move where a row of the sort was", x.copy(4, 0, 3, 0, 1), -12);
    due(39, "to a move where a row of the sort was", x.copy(3, 0, 4, 0, 1), -12);
  }

  private static void promise40() {
    OneEach x = new OneEach();
    int[] want = {1, 3, 4, 9, 6, 9, 0, 7};
    for (int kind = MOVE; kind <= HIDDEN; kind++) {
      x.keep(0, 1, kind, 456);
      due(40, "letters of kind " + kind, x.letters(0), want[kind]);
    }
    due(40, "nothing", x.letters(1), -11);
    x.row(1, 0, 1);
    due(40, "a row", x.letters(1), -12);
    due(40, "shelf 8", x.letters(8), -1);
    due(40, "shelf -1", x.letters(-1), -1);
  }

  private static void promise41() {
    OneEach x = new OneEach();
    int[] want = {4, 4, 4, 4, 4, 104, -15, 207};
    for (int kind = MOVE; kind <= HIDDEN; kind++) {
      x.keep(0, 1, kind, 456);
      due(41, "failure of kind " + kind, x.toss(0), want[kind]);
      x.keep(0, 1, kind, 56);
      due(41, "failure of kind " + kind + " with who 0", x.toss(0), -15);
    }
    due(41, "nothing", x.toss(1), -11);
    x.row(1, 0, 1);
    due(41, "a row", x.toss(1), -12);
    due(41, "shelf 8", x.toss(8), -1);
    due(41, "shelf -1", x.toss(-1), -1);
  }

  /** Where all places are taken, a number one too far would show. */
  private static OneEach fullTown() {
    return made("s1;s2;s1;s3;s1;pab;pc;pbt0;paxa;pd;pet4;pc;phxh;",
        "w00 31;w11 32;w22 33;w33 34;w44 35;w50 36;w61 37;w72 38;w04 21;w13 22;w74 99;l15abcdefgh;",
        "y011;y022;y034;y049;y126;y137;y148;y238;y246;y343;i00;i11;i33;i44;i54;i73;");
  }

  private static void fullTownToo() {
    OneEach x = fullTown();
    due(2, "a ninth", read(x, "pa;"), -2000);
    due(2, "a sixth street", read(x, "s1;"), -2000);
    due(3, "crafts of the fourth street", x.street(3, 2), 129);
    due(3, "shown crafts of the fourth street", x.street(3, 3), 0);
    due(3, "who live in the fifth street", x.street(4, 1), 2);
    due(5, "worth of the eighth", x.person(7, 4), 13);
    due(6, "wish of the eighth", x.wish(7, 4), 99);
    due(10, "too many in the fifth", x.firstUnlawful(), 4);
    due(11, "worth of all", x.worth(), 173);
    due(12, "worth of the eighth in the fifth", x.worthIn(7, 4), 102);
    due(18, "stable", x.stable(), 1);
    due(21, "a craft more for the eighth, none of those near", x.learn(7), 5);
    due(22, "where the others make it unlawful", x.where(7), -4);
    due(23, "walk to the fifth", x.walk(3, 4), 3);
    due(24, "price in the fifth", x.price(4, 4), 30);
    due(25, "crafts alone", x.alone(), 5);
    due(29, "a street more", x.newly(1), -2);
    due(34, "houses", x.count(2), 8);
    due(34, "in streets", x.count(3), 6);
    due(34, "tied", x.count(4), 2);
    due(34, "hiding", x.count(5), 2);
    due(15, "moves of the eighth", judged(x, 4, 9, 7, 2, 7, 4), 4);
    x.image();
    x.lives(5, 9);
    due(9, "lawful", x.lawful(), 1);
    due(22, "where the eighth is best", x.where(7), 2);
    kept(x, CHAIN, 7, 0, 4);
    due(13, "a chain of the eighth", x.wanted(0, 0), 0);
    kept(x, HIDDEN, 7, 0, 2);
    due(14, "the eighth goes", x.move(0), 1);
    due(33, "back", x.restore(), 8);
    due(33, "wish of the eighth", x.wish(7, 4), 99);
    due(33, "home of the eighth", x.person(7, 3), 3);
  }

  public static void main(String[] args) {
    promise01();
    promise02();
    promise03();
    promise04();
    promise05();
    promise06();
    promise07();
    promise08();
    promise09();
    promise10();
    promise11();
    promise12();
    promise13();
    promise14();
    promise15();
    promise16();
    promise17();
    promise18();
    promise19();
    promise20();
    promise21();
    promise22();
    promise23();
    promise24();
    promise25();
    promise26();
    promise27();
    promise28();
    promise29();
    promise30();
    promise31();
    promise32();
    promise33();
    promise34();
    promise35();
    promise36();
    promise37();
    promise38();
    promise39();
    promise40();
    promise41();
    fullTownToo();
    System.out.println(wrong == 0 ? asked + " answers are as due" : wrong + " answers are not as due");
    if (wrong != 0) {
      System.exit(1);
    }
  }
}
