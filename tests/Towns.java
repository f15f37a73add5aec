/** Quarters that boundary cases begin with. */
final class Towns {
  /** Something of everything: sills, people, days gone by, tape, sheets, spots, an image, findings. */
  static TollSills rich() {
    TollSills x = new TollSills();
    sill(x, 4, 2, 4);
    sill(x, 1, 5, 5, 9);
    sill(x, 2, 8);
    x.change(2, 3, 1);
    x.person(7);
    x.person(1024);
    x.person(0);
    x.send(1, 1, 1);
    int[] list = {0, 11, 21, 57, 2, 21};
    for (int i = 0; i < 6; i++) {
      x.list(i, list[i] / 10, list[i] % 10);
    }
    for (int spot = 0; spot < 10; spot++) {
      x.hold(spot, spot % 3);
    }
    x.seed(-12345);
    x.go(2);
    x.image();
    x.lay(2, 3);
    x.list(5, 1, 0);
    x.hold(3, 2);
    x.hold(4, -1);
    x.go(3);
    x.seed(777);
    Due.sheet(x, 0, 8, 5, 9, -1);
    Due.sheet(x, 1, 16, 1024, 7);
    x.sheet(2, 32, 0);
    Due.feedByFours(x, "person has 3;sill keeps 1");
    x.now(9);
    x.word(0, 5);
    return x;
  }

  /** Nothing more has room: 8 sills, 6 people, 5 words at sill 0, 120 bytes, a sheet of 40. */
  static TollSills full() {
    TollSills x = new TollSills();
    for (int i = 0; i < 8; i++) {
      x.sill(i % 7);
    }
    for (int i = 0; i < 6; i++) {
      x.person(4095 - i);
    }
    for (int i = 0; i < 5; i++) {
      x.lay(0, 11 - i);
    }
    for (int i = 0; i < 30; i++) {
      x.feed(0x63726f73, 4);
    }
    x.sheet(3, 32, 40);
    x.write(3, 39, 4095);
    return x;
  }

  /** Day 99960, which no 512 calls come to. */
  static TollSills late() {
    TollSills x = new TollSills();
    x.sill(6);
    x.person(4095);
    for (int i = 0; i < 1666; i++) {
      x.go(60);
    }
    return x;
  }

  /** A new sill that keeps words: its number. */
  static int sill(TollSills x, int kind, int... words) {
    int sill = x.sill(kind);
    for (int word : words) {
      x.lay(sill, word);
    }
    return sill;
  }

  /** One sill of a kind that keeps words, and one who has a set, out. */
  static TollSills door(int kind, int has, int... words) {
    TollSills x = new TollSills();
    sill(x, kind, words);
    x.person(has);
    return x;
  }

  /** The same, but one is in. */
  static TollSills inside(int kind, int has, int... words) {
    TollSills x = door(kind, has, words);
    x.send(0, 1, 0);
    return x;
  }
}
