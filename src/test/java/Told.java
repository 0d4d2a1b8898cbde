import java.util.LinkedHashMap;
import java.util.LinkedHashSet;
import java.util.List;
import java.util.Map;
import java.util.Objects;
import java.util.Set;

/**
 * What all calls tell of an object, in one list, so that two objects can be laid beside one another. The last calls
 * change the object (they undo, lay back, fit), so that what is only seen by them is told too: it is of no use then.
 */
final class Told {
  private final Map<String, Long> answers = new LinkedHashMap<>();
  private final int joints;

  private Told(int joints) {
    this.joints = joints;
  }

  static Told of(HeldTillSet x) {
    Told told = new Told(x.count(0));
    told.numbers(x);
    told.shelves(x);
    told.thought(x);
    told.chair(x, "now");
    told.changes(x);
    told.back(x);
    told.tape(x);
    told.add("body(0)", x.body(0));
    return told;
  }

  private void add(String name, long answer) {
    answers.put(name, answer);
  }

  private void numbers(HeldTillSet x) {
    for (int what = 0; what <= 4; what++) {
      add("count(" + what + ")", x.count(what));
      add("led(" + what + ")", x.led(what));
    }
    int ran = x.count(4);
    for (int i = 0; i <= Math.min(24, ran); i++) {
      add("trace(" + i + ")", x.trace(i));
    }
    mended(x, "at first");
    add("of(0, 11)", x.of(0, 11));
    add("of(0, 12)", x.of(0, 12));
  }

  private void mended(HeldTillSet x, String when) {
    for (int what = 6; what <= 10; what++) {
      add("of(0, " + what + ") " + when, x.of(0, what));
    }
    for (int j = 0; j < joints; j++) {
      for (int what = 0; what <= 5; what++) {
        add("of(" + j + ", " + what + ") " + when, x.of(j, what));
      }
    }
  }

  private void shelves(HeldTillSet x) {
    for (int shelf = 0; shelf < 6; shelf++) {
      add("taken(" + shelf + ", 0)", x.taken(shelf, 0));
      add("done(" + shelf + ", 1)", x.done(shelf, 1));
      add("which(" + shelf + ", 1)", x.which(shelf, 1));
      for (int i = 0; i <= 60; i += i < 12 ? 1 : 6) {
        add("element(" + shelf + ", " + i + ")", x.element(shelf, i));
      }
    }
  }

  private void thought(HeldTillSet x) {
    add("can(1)", x.can(1));
    add("soonest(-1)", x.soonest(-1));
    add("dry()", x.dry());
    for (int j = 0; j < joints; j++) {
      add("sets(" + 10 * j + ")", x.sets(10 * j));
      add("sets(" + (10 * j + 3) + ")", x.sets(10 * j + 3));
    }
  }

  private void chair(HeldTillSet x, String when) {
    for (int j = 0; j < joints; j++) {
      add("test(" + j + ") " + when, x.test(j));
    }
    for (int j = 0; j < joints; j++) {
      add("fit(" + j + ") " + when, x.fit(j));
    }
  }

  private void changes(HeldTillSet x) {
    int more = x.redo();
    add("redo()", more);
    for (int i = 0; i < 40 && more > 0; i++) {
      more = x.redo();
    }
    if (more >= 0) {
      mended(x, "done again");
    }
    int left = x.undo();
    add("undo()", left);
    for (int i = 0; i < 40 && left > 0; i++) {
      left = x.undo();
    }
    if (left >= 0) {
      mended(x, "undone");
    }
  }

  private void back(HeldTillSet x) {
    add("back()", x.back());
    for (int what = 0; what <= 4; what++) {
      add("led(" + what + ") of the image", x.led(what));
    }
    chair(x, "of the image");
  }

  private void tape(HeldTillSet x) {
    add("law()", x.law());
    add("sets(0) by the tape", x.sets(0));
  }

  /** One answer that is due: all that is told is as it is told of the other, but for the calls given. */
  static void alike(Due due, String after, Told got, Told want, String... but) {
    Set<String> names = new LinkedHashSet<>(want.answers.keySet());
    names.addAll(got.answers.keySet());
    for (String name : names) {
      Long answer = got.answers.get(name);
      if (!List.of(but).contains(name) && !Objects.equals(answer, want.answers.get(name))) {
        due.is(after + ", then " + name + " (" + answer + ", not " + want.answers.get(name) + ")", 1, 0);
        return;
      }
    }
    due.is(after, 0, 0);
  }
}
