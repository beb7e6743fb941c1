import java.util.ArrayList;
import java.util.List;

/**
 * The order of the refusals, and that what is refused changes nothing: an object with a refused call in its run answers
 * every later call as a twin without it does. No object is used for more than 512 calls.
 */
public final class HaloTreesRefusals {
  private static final int UNKNOWN = -1000000001, OUTSIDE = -1000000002, NOT = -1000000003, FULL = -1000000004;
  private static final int LEAST = Integer.MIN_VALUE, MOST = Integer.MAX_VALUE;
  /** More often than can be undone: were each one kept, nothing of what was would be left. */
  private static final int TIMES = 9;
  private static int wrong = 0;

  private interface Call { int on(HaloTrees t); }

  private interface Start { HaloTrees make(); }

  private interface Later { void ask(Answers answers); }

  private record Refused(String call, int due, Call made) { }

  /** What one object answers, and the calls by name, one behind the other. */
  private static final class Answers {
    final HaloTrees t;
    final List<String> calls = new ArrayList<>();
    final List<Integer> row = new ArrayList<>();

    Answers(HaloTrees t) { this.t = t; }

    void add(String call, int answer) {
      calls.add(call);
      row.add(answer);
    }
  }

  // ---- four objects to begin with, each of some sixty calls at most

  private static HaloTrees nothingYet() { return new HaloTrees(); }

  /** Three pictures, one of them empty; three changes can be undone, no image is kept. */
  private static HaloTrees threePictures() {
    HaloTrees t = new HaloTrees();
    t.drift(21);
    t.picture();
    t.drift(5);
    t.weigh(2, 4);
    t.weigh(9, 3);
    t.bound(0, 11);
    for (int i = 0; i < 3; i++) t.undo();
    return t;
  }

  /** Six pictures, as many changes as can be undone and more, image 0 kept. */
  private static HaloTrees sixPictures() {
    HaloTrees t = new HaloTrees();
    t.drift(7);
    t.weigh(3, 7);
    t.keep(0);
    for (int seed = 40; seed < 44; seed++) t.drift(seed);
    for (int g = 0; g < 8; g++) t.weigh(g, 9 - g);
    t.bound(0, 12);
    t.bound(1, 3);
    t.picture();
    for (int g = 0; g < 6; g++) t.put(5, g, 10 * g, 3 * g);
    t.lose(5, 2);
    return t;
  }

  /** Two pictures behind goBack: nothing can be undone, image 1 is kept. */
  private static HaloTrees wentBack() {
    HaloTrees t = new HaloTrees();
    t.drift(99);
    t.drift(100);
    t.bound(1, 1);
    t.bound(0, 0);
    t.keep(1);
    t.drop();
    t.weigh(0, 9);
    t.goBack(1);
    return t;
  }

  // ---- what is asked later, by subject, since 512 calls do not reach for all of it

  private static void askWhatIsSo(Answers a) {
    for (int what = 0; what < 8; what++) a.add("told " + what, a.t.told(what));
    for (int p = 0; p < 6; p++) {
      for (int what = 0; what < 8; what++) a.add("ofPicture " + p + " " + what, a.t.ofPicture(p, what));
      for (int g = 0; g < 24; g++) {
        a.add("X " + p + " " + g, a.t.grain(p, g, 0));
        a.add("Y " + p + " " + g, a.t.grain(p, g, 1));
      }
    }
    for (int g = 0; g < 24; g++) a.add("weight " + g, a.t.grain(0, g, 7));
  }

  private static void askWhatComesOfIt(Answers a) {
    for (int p = 0; p < 6; p++) {
      for (int h = 0; h < 4; h++) {
        for (int what = 0; what < 8; what++) a.add("halo " + p + " " + h + " " + what, a.t.halo(p, h, what));
        a.add("from " + p + " " + h, a.t.from(p, h));
        a.add("branch " + p + " " + h, a.t.branch(p, h, 1));
        a.add("common " + p + " " + h, a.t.common(p, h, 0));
      }
      a.add("clumps " + p, a.t.clumps(p, 20));
      a.add("looked at " + p, a.t.within(p, 30, 30, 100, 3));
      a.add("nearest " + p, a.t.nearest(p, 30, 30));
      for (int g = 0; g < 8; g++) {
        a.add("holds " + p + " " + g, a.t.grain(p, g, 5));
        a.add("below " + p + " " + g, a.t.below(p, g, 0));
      }
      a.add("steps " + p, a.t.steps(p, 0, 1));
      a.add("join " + p, a.t.join(p, 0, 1));
    }
  }

  private static void askAfterEachUndo(Answers a) {
    for (int i = 0; i < 9; i++) {
      a.add("undo", a.t.undo());
      for (int what = 0; what < 8; what++) a.add("told " + what, a.t.told(what));
      for (int p = 0; p < 6; p++) a.add("grains of " + p, a.t.ofPicture(p, 1));
      for (int g = 0; g < 8; g++) {
        a.add("weight " + g, a.t.grain(0, g, 7));
        a.add("X 5 " + g, a.t.grain(5, g, 0));
      }
    }
  }

  private static void askImages(Answers a) {
    for (int i = 0; i < 2; i++) {
      a.add("goBack " + i, a.t.goBack(i));
      for (int what = 0; what < 8; what++) a.add("told " + what, a.t.told(what));
      for (int p = 0; p < 6; p++) a.add("grains of " + p, a.t.ofPicture(p, 1));
      for (int g = 0; g < 24; g++) {
        for (int what : new int[] {0, 1, 3, 7}) a.add("grain 0 " + g + " " + what, a.t.grain(0, g, what));
      }
    }
  }

  private static void askWhatIsDoneNext(Answers a) {
    a.add("halos", a.t.told(3));
    a.add("drop", a.t.drop());
    a.add("picture", a.t.picture());
    a.add("drift", a.t.drift(77));
    a.add("put", a.t.put(0, 0, 33, 33));
    a.add("lose", a.t.lose(0, 1));
    a.add("weigh", a.t.weigh(1, 5));
    a.add("bound", a.t.bound(0, 20));
    a.add("bound", a.t.bound(1, 9));
    for (int p = 0; p < 6; p++) {
      for (int what = 0; what < 8; what++) a.add("ofPicture " + p + " " + what, a.t.ofPicture(p, what));
    }
    a.add("undo", a.t.undo());
    a.add("keep", a.t.keep(1));
    a.add("drop", a.t.drop());
    a.add("goBack", a.t.goBack(1));
    for (int what = 0; what < 8; what++) a.add("told " + what, a.t.told(what));
  }

  // ---- what is refused

  private static void add(List<Refused> all, int due, String call, Call made) { all.add(new Refused(call, due, made)); }

  private static void addNoPicture(List<Refused> all, int p) {
    add(all, UNKNOWN, "put(" + p + ", 0, 0, 0)", t -> t.put(p, 0, 0, 0));
    add(all, UNKNOWN, "put(" + p + ", 0, 64, -1)", t -> t.put(p, 0, 64, -1));
    add(all, UNKNOWN, "lose(" + p + ", 0)", t -> t.lose(p, 0));
    add(all, UNKNOWN, "ofPicture(" + p + ", 2)", t -> t.ofPicture(p, 2));
    add(all, UNKNOWN, "ofPicture(" + p + ", 8)", t -> t.ofPicture(p, 8));
    add(all, UNKNOWN, "grain(" + p + ", 0, 2)", t -> t.grain(p, 0, 2));
    add(all, UNKNOWN, "grain(" + p + ", 0, 8)", t -> t.grain(p, 0, 8));
    add(all, UNKNOWN, "halo(" + p + ", 0, 0)", t -> t.halo(p, 0, 0));
    add(all, UNKNOWN, "halo(" + p + ", 0, 8)", t -> t.halo(p, 0, 8));
    add(all, UNKNOWN, "from(" + p + ", 0)", t -> t.from(p, 0));
    add(all, UNKNOWN, "branch(" + p + ", 0, 0)", t -> t.branch(p, 0, 0));
    add(all, UNKNOWN, "branch(" + p + ", 0, -1)", t -> t.branch(p, 0, -1));
    add(all, UNKNOWN, "common(" + p + ", 0, 0)", t -> t.common(p, 0, 0));
    add(all, UNKNOWN, "within(" + p + ", 0, 0, 0, 3)", t -> t.within(p, 0, 0, 0, 3));
    add(all, UNKNOWN, "within(" + p + ", 64, 64, -1, 4)", t -> t.within(p, 64, 64, -1, 4));
    add(all, UNKNOWN, "nearest(" + p + ", 0, 0)", t -> t.nearest(p, 0, 0));
    add(all, UNKNOWN, "nearest(" + p + ", -1, 64)", t -> t.nearest(p, -1, 64));
    add(all, UNKNOWN, "below(" + p + ", 0, 0)", t -> t.below(p, 0, 0));
    add(all, UNKNOWN, "below(" + p + ", 0, 2)", t -> t.below(p, 0, 2));
    add(all, UNKNOWN, "steps(" + p + ", 0, 1)", t -> t.steps(p, 0, 1));
    add(all, UNKNOWN, "clumps(" + p + ", 0)", t -> t.clumps(p, 0));
    add(all, UNKNOWN, "clumps(" + p + ", 91)", t -> t.clumps(p, 91));
    add(all, UNKNOWN, "join(" + p + ", 0, 1)", t -> t.join(p, 0, 1));
  }

  private static void addNoGrain(List<Refused> all, int p, int g) {
    add(all, UNKNOWN, "put(" + p + ", " + g + ", 0, 0)", t -> t.put(p, g, 0, 0));
    add(all, UNKNOWN, "put(" + p + ", " + g + ", 64, 64)", t -> t.put(p, g, 64, 64));
    add(all, UNKNOWN, "lose(" + p + ", " + g + ")", t -> t.lose(p, g));
    add(all, UNKNOWN, "grain(" + p + ", " + g + ", 5)", t -> t.grain(p, g, 5));
    add(all, UNKNOWN, "grain(" + p + ", " + g + ", -1)", t -> t.grain(p, g, -1));
    add(all, UNKNOWN, "below(" + p + ", " + g + ", 1)", t -> t.below(p, g, 1));
    add(all, UNKNOWN, "below(" + p + ", " + g + ", -1)", t -> t.below(p, g, -1));
    add(all, UNKNOWN, "steps(" + p + ", " + g + ", 0)", t -> t.steps(p, g, 0));
    add(all, UNKNOWN, "steps(" + p + ", 0, " + g + ")", t -> t.steps(p, 0, g));
    add(all, UNKNOWN, "steps(" + p + ", " + g + ", " + g + ")", t -> t.steps(p, g, g));
    add(all, UNKNOWN, "join(" + p + ", " + g + ", 0)", t -> t.join(p, g, 0));
    add(all, UNKNOWN, "join(" + p + ", 0, " + g + ")", t -> t.join(p, 0, g));
    add(all, UNKNOWN, "weigh(" + g + ", 5)", t -> t.weigh(g, 5));
    add(all, UNKNOWN, "weigh(" + g + ", 10)", t -> t.weigh(g, 10));
  }

  private static void addOutsideField(List<Refused> all, int p, int v) {
    add(all, OUTSIDE, "put(" + p + ", 0, " + v + ", 5)", t -> t.put(p, 0, v, 5));
    add(all, OUTSIDE, "put(" + p + ", 0, 5, " + v + ")", t -> t.put(p, 0, 5, v));
    add(all, OUTSIDE, "within(" + p + ", " + v + ", 5, 9, 0)", t -> t.within(p, v, 5, 9, 0));
    add(all, OUTSIDE, "within(" + p + ", 5, " + v + ", 9, 3)", t -> t.within(p, 5, v, 9, 3));
    add(all, OUTSIDE, "nearest(" + p + ", " + v + ", 5)", t -> t.nearest(p, v, 5));
    add(all, OUTSIDE, "nearest(" + p + ", 5, " + v + ")", t -> t.nearest(p, 5, v));
  }

  private static void addOutsideOfPicture(List<Refused> all, int p) {
    for (int v : new int[] {-1, 64, LEAST, MOST}) addOutsideField(all, p, v);
    for (int v : new int[] {-1, 10000, LEAST, MOST}) add(all, OUTSIDE, "within(" + p + ", 5, 5, " + v + ", 1)", t -> t.within(p, 5, 5, v, 1));
    for (int v : new int[] {-1, 4, LEAST, MOST}) add(all, OUTSIDE, "within(" + p + ", 5, 5, 9, " + v + ")", t -> t.within(p, 5, 5, 9, v));
    for (int v : new int[] {-1, 91, LEAST, MOST}) add(all, OUTSIDE, "clumps(" + p + ", " + v + ")", t -> t.clumps(p, v));
    for (int v : new int[] {-1, 2, LEAST, MOST}) add(all, OUTSIDE, "below(" + p + ", 0, " + v + ")", t -> t.below(p, 0, v));
    for (int v : new int[] {-1, 8, LEAST, MOST}) {
      add(all, OUTSIDE, "ofPicture(" + p + ", " + v + ")", t -> t.ofPicture(p, v));
      add(all, OUTSIDE, "grain(" + p + ", 0, " + v + ")", t -> t.grain(p, 0, v));
    }
    for (int g : new int[] {0, 7, 23}) add(all, UNKNOWN, "join(" + p + ", " + g + ", " + g + ")", t -> t.join(p, g, g));
  }

  private static void addOfHalos(List<Refused> all, int p, int halos, int pictures) {
    for (int h : new int[] {-1, halos, 24, LEAST, MOST}) {
      add(all, UNKNOWN, "halo(" + p + ", " + h + ", 1)", t -> t.halo(p, h, 1));
      add(all, UNKNOWN, "halo(" + p + ", " + h + ", 8)", t -> t.halo(p, h, 8));
      add(all, UNKNOWN, "from(" + p + ", " + h + ")", t -> t.from(p, h));
      add(all, UNKNOWN, "branch(" + p + ", " + h + ", 0)", t -> t.branch(p, h, 0));
      add(all, UNKNOWN, "branch(" + p + ", " + h + ", -1)", t -> t.branch(p, h, -1));
      add(all, UNKNOWN, "common(" + p + ", " + h + ", 0)", t -> t.common(p, h, 0));
      if (p > 0) add(all, UNKNOWN, "common(" + (p - 1) + ", 0, " + h + ")", t -> t.common(p - 1, 0, h));
    }
    if (halos == 0) return;
    for (int v : new int[] {-1, 8, LEAST, MOST}) add(all, OUTSIDE, "halo(" + p + ", 0, " + v + ")", t -> t.halo(p, 0, v));
    for (int k : new int[] {-1, LEAST}) add(all, OUTSIDE, "branch(" + p + ", 0, " + k + ")", t -> t.branch(p, 0, k));
    if (p == pictures - 1) add(all, UNKNOWN, "common(" + p + ", 0, 0)", t -> t.common(p, 0, 0));
  }

  private static void addOfNoPicture(List<Refused> all) {
    for (int v : new int[] {0, 10, -1, LEAST, MOST}) add(all, OUTSIDE, "weigh(0, " + v + ")", t -> t.weigh(0, v));
    for (int v : new int[] {-1, 41, LEAST, MOST}) add(all, OUTSIDE, "bound(0, " + v + ")", t -> t.bound(0, v));
    for (int v : new int[] {0, 100, -1, LEAST, MOST}) add(all, OUTSIDE, "bound(1, " + v + ")", t -> t.bound(1, v));
    for (int v : new int[] {-1, 2, LEAST, MOST}) {
      add(all, OUTSIDE, "bound(" + v + ", 5)", t -> t.bound(v, 5));
      add(all, UNKNOWN, "keep(" + v + ")", t -> t.keep(v));
      add(all, UNKNOWN, "goBack(" + v + ")", t -> t.goBack(v));
    }
    for (int v : new int[] {0, -1, 1000000, LEAST, MOST}) add(all, OUTSIDE, "drift(" + v + ")", t -> t.drift(v));
    for (int v : new int[] {-1, 8, LEAST, MOST}) add(all, OUTSIDE, "told(" + v + ")", t -> t.told(v));
  }

  private static List<Refused> refusedBy(Start start) {
    int pictures = start.make().told(0);
    List<Refused> all = new ArrayList<>();
    addOfNoPicture(all);
    for (int p : new int[] {-1, pictures, 6, LEAST, MOST}) addNoPicture(all, p);
    for (int g : new int[] {-1, 24, LEAST, MOST}) {
      add(all, UNKNOWN, "weigh(" + g + ", 0)", t -> t.weigh(g, 0));
      addNoGrain(all, pictures, g);
    }
    for (int p = 0; p < pictures; p++) {
      for (int g : new int[] {-1, 24, LEAST, MOST}) addNoGrain(all, p, g);
      addOutsideOfPicture(all, p);
      addOfHalos(all, p, start.make().ofPicture(p, 4), pictures);
      for (int g = 0; g < 24; g++) {
        int picture = p, grain = g;
        boolean in = (start.make().ofPicture(p, 1) >> g & 1) != 0;
        if (!in) add(all, NOT, "lose(" + p + ", " + g + ")", t -> t.lose(picture, grain));
      }
    }
    return all;
  }

  // ---- twins

  private static void holdAgainstTwins(String name, Start start, List<Refused> refused) {
    Later[] subjects = {HaloTreesRefusals::askWhatIsSo, HaloTreesRefusals::askWhatComesOfIt, HaloTreesRefusals::askAfterEachUndo,
        HaloTreesRefusals::askImages, HaloTreesRefusals::askWhatIsDoneNext};
    for (Later subject : subjects) {
      Answers without = new Answers(start.make());
      subject.ask(without);
      for (Refused one : refused) {
        Answers with = new Answers(start.make());
        for (int i = 0; i < TIMES; i++) dueRefusal(name, one, one.made.on(with.t));
        subject.ask(with);
        compare(name + ", behind " + one.call, with, without);
      }
    }
  }

  private static void dueRefusal(String name, Refused one, int got) {
    if (got != one.due) {
      wrong++;
      System.out.println(name + ": " + one.call + " answered " + got + ", due is " + one.due);
    }
  }

  private static void compare(String name, Answers with, Answers without) {
    for (int i = 0; i < without.row.size(); i++) {
      if (!with.row.get(i).equals(without.row.get(i))) {
        wrong++;
        System.out.println(name + ": " + without.calls.get(i) + " answered " + with.row.get(i) + ", due is " + without.row.get(i));
        return;
      }
    }
  }

  private static void checkTwins() {
    List<Refused> ofNothing = refusedBy(HaloTreesRefusals::nothingYet);
    add(ofNothing, NOT, "drop()", HaloTrees::drop);
    add(ofNothing, NOT, "undo()", HaloTrees::undo);
    add(ofNothing, NOT, "goBack(0)", t -> t.goBack(0));
    add(ofNothing, NOT, "goBack(1)", t -> t.goBack(1));
    holdAgainstTwins("a new object", HaloTreesRefusals::nothingYet, ofNothing);

    List<Refused> ofThree = refusedBy(HaloTreesRefusals::threePictures);
    add(ofThree, NOT, "goBack(0)", t -> t.goBack(0));
    add(ofThree, NOT, "goBack(1)", t -> t.goBack(1));
    holdAgainstTwins("three pictures", HaloTreesRefusals::threePictures, ofThree);

    List<Refused> ofSix = refusedBy(HaloTreesRefusals::sixPictures);
    add(ofSix, NOT, "goBack(1)", t -> t.goBack(1));
    add(ofSix, FULL, "picture()", HaloTrees::picture);
    add(ofSix, FULL, "drift(1)", t -> t.drift(1));
    add(ofSix, FULL, "drift(999999)", t -> t.drift(999999));
    holdAgainstTwins("six pictures", HaloTreesRefusals::sixPictures, ofSix);

    List<Refused> ofBack = refusedBy(HaloTreesRefusals::wentBack);
    add(ofBack, NOT, "goBack(0)", t -> t.goBack(0));
    add(ofBack, NOT, "undo()", HaloTrees::undo);
    holdAgainstTwins("behind goBack", HaloTreesRefusals::wentBack, ofBack);
    System.out.println(ofNothing.size() + ofThree.size() + ofSix.size() + ofBack.size() + " refused calls");
  }

  // ---- the order

  private static void dueFirst(String call, int got, int want) { dueRefusal("the first in the order", new Refused(call, want, null), got); }

  private static void checkOrder() {
    HaloTrees t = new HaloTrees();
    t.picture();
    t.put(0, 0, 1, 1);
    t.put(0, 1, 1, 1);
    dueFirst("put: picture and place", t.put(1, 0, 64, 0), UNKNOWN);
    dueFirst("put: grain and place", t.put(0, 24, 0, -1), UNKNOWN);
    dueFirst("put: place", t.put(0, 23, 0, -1), OUTSIDE);
    dueFirst("lose: grain, and none such is in it", t.lose(0, 24), UNKNOWN);
    dueFirst("lose: picture, and none such is in it", t.lose(1, 5), UNKNOWN);
    dueFirst("lose: none such is in it", t.lose(0, 23), NOT);
    dueFirst("weigh: grain and weight", t.weigh(24, 10), UNKNOWN);
    dueFirst("weigh: weight", t.weigh(23, 10), OUTSIDE);
    dueFirst("ofPicture: picture and what", t.ofPicture(1, 8), UNKNOWN);
    dueFirst("ofPicture: what", t.ofPicture(0, 8), OUTSIDE);
    dueFirst("grain: picture and what", t.grain(1, 0, 8), UNKNOWN);
    dueFirst("grain: grain and what", t.grain(0, 24, 8), UNKNOWN);
    dueFirst("grain: what, and it is not in it", t.grain(0, 23, 8), OUTSIDE);
    dueFirst("halo: halo and what", t.halo(0, 1, 8), UNKNOWN);
    dueFirst("halo: what", t.halo(0, 0, 8), OUTSIDE);
    dueFirst("branch: halo and k", t.branch(0, 1, -1), UNKNOWN);
    dueFirst("branch: k", t.branch(0, 0, -1), OUTSIDE);
    dueFirst("within: picture and all others", t.within(1, 64, 64, 10000, 4), UNKNOWN);
    dueFirst("within: all others", t.within(0, 64, 64, 10000, 4), OUTSIDE);
    dueFirst("nearest: picture and place", t.nearest(1, 64, 64), UNKNOWN);
    dueFirst("nearest: place", t.nearest(0, 64, 63), OUTSIDE);
    dueFirst("below: picture and side", t.below(1, 0, 2), UNKNOWN);
    dueFirst("below: grain and side", t.below(0, 24, 2), UNKNOWN);
    dueFirst("below: side, and it is not in it", t.below(0, 23, 2), OUTSIDE);
    dueFirst("clumps: picture and length", t.clumps(1, 91), UNKNOWN);
    dueFirst("clumps: length", t.clumps(0, 91), OUTSIDE);
    dueFirst("join: one twice, and it is not in it", t.join(0, 23, 23), UNKNOWN);
    dueFirst("join: another is unknown, and one is not in it", t.join(0, 23, 24), UNKNOWN);
    dueFirst("goBack: image, and it was not kept", t.goBack(2), UNKNOWN);
    dueFirst("goBack: it was not kept", t.goBack(1), NOT);
    for (int i = 0; i < 5; i++) t.picture();
    dueFirst("drift: seed, and full", t.drift(0), OUTSIDE);
    dueFirst("drift: full", t.drift(1), FULL);
    dueFirst("drift: seed beyond, and full", t.drift(1000000), OUTSIDE);
  }

  public static void main(String[] args) {
    checkOrder();
    checkTwins();
    System.out.println(wrong == 0 ? "all refused as due, and nothing changed by it" : wrong + " not as due");
    if (wrong != 0) System.exit(1);
  }
}
