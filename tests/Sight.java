import java.util.ArrayList;
import java.util.List;

/** All that can be seen of an object by its calls; looking at tape, sheets and image uses it up. */
final class Sight {
  private final TollSills x;
  private final List<String> seen = new ArrayList<>();

  private Sight(TollSills x) {
    this.x = x;
  }

  static List<String> of(TollSills x) {
    Sight sight = new Sight(x);
    sight.quarter();
    sight.tape();
    sight.sheets();
    sight.image();
    return sight.seen;
  }

  private void see(String what, long answer) {
    seen.add(what + " " + answer);
  }

  private void quarter() {
    for (int what = 0; what < 8; what++) {
      see("now " + what, x.now(what));
      see("count " + what, x.count(what));
    }
    for (int i = 0; i < 6; i++) {
      see("listed " + i, x.listed(i));
    }
    for (int sill = 0; sill < x.count(1); sill++) {
      for (int what = 0; what < 4; what++) {
        see("of " + sill + ", " + what, x.of(sill, what));
      }
      for (int i = 0; i < x.of(sill, 1); i++) {
        see("word " + sill + ", " + i, x.word(sill, i));
      }
    }
    for (int person = 0; person < x.count(2); person++) {
      for (int what = 0; what < 3; what++) {
        see("ofPerson " + person + ", " + what, x.ofPerson(person, what));
      }
    }
    for (int spot = 0; spot < 10; spot++) {
      see("spot " + spot, x.as(spot, 0));
    }
  }

  private void tape() {
    int items = x.text();
    see("text", items);
    if (items > 0) {
      quarter();
    }
  }

  private void sheets() {
    if (x.count(2) == 0) {
      x.person(0);
    }
    for (int s = 0; s < 4; s++) {
      see("sheet " + s + " to the next one", x.copy(s, 0, (s + 1) % 4, 0, 0));
    }
    for (int s = 0; s < 4; s++) {
      int size = 0;
      while (size < 40 && x.copy(s, size, s, size, 1) == 1) {
        see("number " + s + ", " + size, numberAt(s, size));
        size++;
      }
      see("size " + s, size);
      if (size > 0) {
        seeBits(s);
      }
    }
  }

  /** What a number would let the first one have; -1, if it is no set of words. */
  private long numberAt(int s, int i) {
    x.copy(s, i, s, 0, 1);
    return x.load(s) > 0 ? x.ofPerson(0, 0) : -1;
  }

  private void seeBits(int s) {
    x.write(s, 0, 0x105);
    see("8 bits " + s, numberAt(s, 0));
    x.write(s, 0, 0x10005);
    see("16 bits " + s, numberAt(s, 0));
  }

  private void image() {
    int day = x.undo();
    see("undo", day);
    if (day >= 0) {
      quarter();
    }
    see("tear", x.tear());
  }
}
