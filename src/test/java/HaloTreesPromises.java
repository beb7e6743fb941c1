/** For each promise: ordinary inputs, the edges that the document names, and wrong inputs, answers reckoned by hand. */
public final class HaloTreesPromises {
  private static final int NONE = -1, UNKNOWN = -1000000001, OUTSIDE = -1000000002, NOT = -1000000003, FULL = -1000000004;
  private static int wrong = 0;
  private static int asked = 0;

  private static void due(int promise, String call, int got, int want) {
    asked++;
    if (got != want) {
      wrong++;
      System.out.println("promise " + promise + ": " + call + " answered " + got + ", due is " + want);
    }
  }

  /** Asks the same call of an object by each "what" from 0 on, and one below and one beyond. */
  private interface Asked { int by(int what); }

  private static void dueEach(int promise, String call, Asked asked, int... wanted) {
    for (int what = 0; what < wanted.length; what++) {
      due(promise, call + " what " + what, asked.by(what), wanted[what]);
    }
  }

  private static void dueOutside(int promise, String call, Asked asked, int... numbers) {
    for (int number : numbers) {
      due(promise, call + " with " + number, asked.by(number), OUTSIDE);
    }
  }

  private static void dueUnknown(int promise, String call, Asked asked, int... numbers) {
    for (int number : numbers) {
      due(promise, call + " with " + number, asked.by(number), UNKNOWN);
    }
  }

  private static HaloTrees withPictures(int count) {
    HaloTrees t = new HaloTrees();
    for (int i = 0; i < count; i++) t.picture();
    return t;
  }

  /** Places as grain, x, y one behind the other. */
  private static void lay(HaloTrees t, int picture, int... places) {
    for (int i = 0; i + 2 < places.length; i += 3) t.put(picture, places[i], places[i + 1], places[i + 2]);
  }

  /**
   * Picture 0: a chain of grains 0, 1, 2 (0 to 2 by 1 alone), a pair 5, 6, and 9 alone; picture 1: 0 and 1 far off
   * 2, which lies with 5 and 6; 9 is lost. L is 8 and M is 2.
   */
  private static HaloTrees twoPictures() {
    HaloTrees t = withPictures(2);
    lay(t, 0, 0, 0, 0, 1, 8, 0, 2, 16, 0, 5, 40, 40, 6, 40, 48, 9, 63, 0);
    lay(t, 1, 0, 0, 0, 1, 0, 3, 2, 50, 50, 5, 50, 53, 6, 53, 50);
    return t;
  }

  private static void promise1() {
    HaloTrees t = new HaloTrees();
    dueEach(1, "told", t::told, 0, 8, 2, 0, 0, 0, 0, 0);
    due(1, "undo()", t.undo(), NOT);
    due(1, "goBack(0)", t.goBack(0), NOT);
    due(1, "goBack(1)", t.goBack(1), NOT);
    due(1, "ofPicture(0, 0)", t.ofPicture(0, 0), UNKNOWN);
    t.picture();
    for (int g = 0; g < 24; g++) {
      due(1, "grain(0, g, 7)", t.grain(0, g, 7), 1);
      due(1, "grain(0, g, 0)", t.grain(0, g, 0), NONE);
    }
    HaloTrees other = new HaloTrees();
    due(1, "another object's told(0)", other.told(0), 0);
  }

  private static void promise2() {
    HaloTrees t = new HaloTrees();
    for (int i = 0; i < 6; i++) due(2, "picture()", t.picture(), i);
    due(2, "picture() beyond six", t.picture(), FULL);
    due(2, "told(0)", t.told(0), 6);
    due(2, "told(7): what is refused is not kept", t.told(7), 6);
    due(2, "ofPicture(5, 0)", t.ofPicture(5, 0), 0);
    for (int g = 0; g < 24; g++) t.put(5, g, 1, 1);
    t.drop();
    due(2, "picture() again", t.picture(), 5);
    due(2, "a new one is without grains", t.ofPicture(5, 1), 0);
  }

  private static void promise3() {
    HaloTrees t = withPictures(2);
    t.put(1, 4, 3, 3);
    due(3, "drop()", t.drop(), 1);
    due(3, "ofPicture(1, 0)", t.ofPicture(1, 0), UNKNOWN);
    due(3, "drop()", t.drop(), 0);
    due(3, "told(7)", t.told(7), 5);
    due(3, "drop() without pictures", t.drop(), NOT);
    due(3, "told(7)", t.told(7), 5);
    due(3, "undo()", t.undo(), 4);
    due(3, "undo()", t.undo(), 3);
    due(3, "grain(1, 4, 0)", t.grain(1, 4, 0), 3);
  }

  private static void promise4() {
    HaloTrees t = withPictures(2);
    due(4, "put(0, 0, 0, 63)", t.put(0, 0, 0, 63), 0);
    due(4, "put(0, 0, 63, 0)", t.put(0, 0, 63, 0), 1);
    due(4, "put(1, 0, 5, 6)", t.put(1, 0, 5, 6), 0);
    due(4, "put(0, 23, 63, 0): two at one place", t.put(0, 23, 63, 0), 0);
    due(4, "grain(0, 0, 0)", t.grain(0, 0, 0), 63);
    due(4, "grain(0, 0, 1)", t.grain(0, 0, 1), 0);
    due(4, "grain(1, 0, 0)", t.grain(1, 0, 0), 5);
    due(4, "grain(1, 0, 1)", t.grain(1, 0, 1), 6);
    due(4, "ofPicture(0, 1)", t.ofPicture(0, 1), 1 | 1 << 23);
    due(4, "told(7)", t.told(7), 6);
    dueUnknown(4, "put(picture, 0, 0, 0)", p -> t.put(p, 0, 0, 0), -1, 2, 6, Integer.MIN_VALUE, Integer.MAX_VALUE);
    dueUnknown(4, "put(0, grain, 99, 99)", g -> t.put(0, g, 99, 99), -1, 24, Integer.MIN_VALUE, Integer.MAX_VALUE);
    dueOutside(4, "put(0, 0, x, 0)", x -> t.put(0, 0, x, 0), -1, 64, Integer.MIN_VALUE, Integer.MAX_VALUE);
    dueOutside(4, "put(0, 0, 0, y)", y -> t.put(0, 0, 0, y), -1, 64, Integer.MIN_VALUE, Integer.MAX_VALUE);
    due(4, "told(7)", t.told(7), 6);
    due(4, "grain(0, 0, 0)", t.grain(0, 0, 0), 63);
  }

  private static void promise5() {
    HaloTrees t = twoPictures();
    due(5, "lose(0, 1)", t.lose(0, 1), 5);
    due(5, "ofPicture(0, 1)", t.ofPicture(0, 1), 1 | 1 << 2 | 1 << 5 | 1 << 6 | 1 << 9);
    due(5, "grain(1, 1, 1): the other picture has it", t.grain(1, 1, 1), 3);
    due(5, "lose(0, 1) once more", t.lose(0, 1), NOT);
    due(5, "lose(1, 9)", t.lose(1, 9), NOT);
    dueUnknown(5, "lose(picture, 0)", p -> t.lose(p, 0), -1, 2, 6, Integer.MIN_VALUE, Integer.MAX_VALUE);
    dueUnknown(5, "lose(0, grain)", g -> t.lose(0, g), -1, 24, Integer.MIN_VALUE, Integer.MAX_VALUE);
    t.undo();
    due(5, "grain(0, 1, 0)", t.grain(0, 1, 0), 8);
    HaloTrees one = withPictures(1);
    one.put(0, 23, 1, 1);
    due(5, "lose(0, 23)", one.lose(0, 23), 0);
  }

  private static void promise6() {
    HaloTrees t = twoPictures();
    due(6, "weigh(0, 9)", t.weigh(0, 9), 1);
    due(6, "weigh(0, 1)", t.weigh(0, 1), 9);
    due(6, "weigh(23, 5)", t.weigh(23, 5), 1);
    due(6, "weigh(9, 2)", t.weigh(9, 2), 1);
    due(6, "ofPicture(0, 7)", t.ofPicture(0, 7), 7);
    due(6, "ofPicture(1, 7)", t.ofPicture(1, 7), 5);
    due(6, "ofPicture(0, 4): grain 9 is heavy enough alone", t.ofPicture(0, 4), 3);
    dueUnknown(6, "weigh(grain, 0)", g -> t.weigh(g, 0), -1, 24, Integer.MIN_VALUE, Integer.MAX_VALUE);
    dueOutside(6, "weigh(0, weight)", w -> t.weigh(0, w), 0, 10, -1, Integer.MIN_VALUE, Integer.MAX_VALUE);
    due(6, "grain(0, 0, 7)", t.grain(0, 0, 7), 1);
    due(6, "weigh without pictures", new HaloTrees().weigh(7, 7), 1);
  }

  private static void promise7() {
    HaloTrees t = twoPictures();
    due(7, "bound(0, 7)", t.bound(0, 7), 8);
    due(7, "ofPicture(0, 3)", t.ofPicture(0, 3), 6);
    due(7, "bound(0, 40)", t.bound(0, 40), 7);
    due(7, "bound(0, 0)", t.bound(0, 0), 40);
    due(7, "bound(0, 8)", t.bound(0, 8), 0);
    due(7, "bound(1, 3)", t.bound(1, 3), 2);
    due(7, "told(1)", t.told(1), 8);
    due(7, "told(2)", t.told(2), 3);
    due(7, "ofPicture(0, 4)", t.ofPicture(0, 4), 1);
    due(7, "bound(1, 99)", t.bound(1, 99), 3);
    due(7, "ofPicture(0, 4)", t.ofPicture(0, 4), 0);
    due(7, "bound(1, 1)", t.bound(1, 1), 99);
    due(7, "ofPicture(0, 4)", t.ofPicture(0, 4), 3);
    dueOutside(7, "bound(0, v)", v -> t.bound(0, v), -1, 41, Integer.MIN_VALUE, Integer.MAX_VALUE);
    dueOutside(7, "bound(1, v)", v -> t.bound(1, v), 0, 100, -1, Integer.MIN_VALUE, Integer.MAX_VALUE);
    dueOutside(7, "bound(what, 5)", w -> t.bound(w, 5), -1, 2, Integer.MIN_VALUE, Integer.MAX_VALUE);
    due(7, "told(1)", t.told(1), 8);
    due(7, "told(2)", t.told(2), 1);
  }

  /** The numbers of a seed as the document tells them, so that a picture by lots is reckoned here anew. */
  private static final class Numbers {
    private long x;
    Numbers(int seed) { x = seed; }
    int next(int by) { x = x * 16807 % 2147483647; return (int) (x % by); }
  }

  private static void promise8() {
    // Seed 1 draws 16807, 282475249, 1622650073, 984943658, 1144108930, 470211272, 101027544, ...
    HaloTrees t = new HaloTrees();
    t.drift(1);
    due(8, "16807 by 4 is 3: grain 0 is in it, its X 282475249 by 64", t.grain(0, 0, 0), 282475249 % 64);
    due(8, "its Y 1622650073 by 64", t.grain(0, 0, 1), 1622650073 % 64);
    due(8, "984943658 by 4 is 2: grain 1 is in it, its X", t.grain(0, 1, 0), 1144108930 % 64);
    due(8, "its Y", t.grain(0, 1, 1), 470211272 % 64);
    due(8, "101027544 by 4 is 0: grain 2 is not", t.grain(0, 2, 0), NONE);
    for (int seed : new int[] {1, 2, 3, 7, 99, 4321, 77777, 999999}) firstAndSecond(seed);
    edgesOfDrift();
    HaloTrees empty = withPictures(1);
    int in = empty.drift(12);
    due(8, "grains that come in new, out of an empty picture", in, comeNew(12));
    dueOutside(8, "drift(seed)", t::drift, 0, -1, 1000000, Integer.MIN_VALUE, Integer.MAX_VALUE);
    due(8, "told(0)", t.told(0), 1);
    HaloTrees full = withPictures(6);
    due(8, "drift(5) beyond six", full.drift(5), FULL);
    due(8, "drift(0) beyond six", full.drift(0), OUTSIDE);
    due(8, "told(7)", full.told(7), 6);
  }

  private static int comeNew(int seed) {
    Numbers n = new Numbers(seed);
    int count = 0;
    for (int g = 0; g < 24; g++) {
      if (n.next(16) == 0) {
        n.next(64);
        n.next(64);
        count++;
      }
    }
    return count;
  }

  private static void firstAndSecond(int seed) {
    HaloTrees t = new HaloTrees();
    int[] xs = new int[24], ys = new int[24];
    Numbers n = new Numbers(seed);
    int count = 0;
    for (int g = 0; g < 24; g++) {
      boolean in = n.next(4) != 0;
      xs[g] = in ? n.next(64) : NONE;
      ys[g] = in ? n.next(64) : NONE;
      if (in) count++;
    }
    due(8, "drift(" + seed + ")", t.drift(seed), count);
    duePlaces(t, 0, xs, ys);
    int second = seed % 1000 + 5;
    due(8, "drift(" + second + ") behind " + seed, t.drift(second), carryOn(second, xs, ys));
    duePlaces(t, 1, xs, ys);
  }

  private static int carryOn(int seed, int[] xs, int[] ys) {
    Numbers n = new Numbers(seed);
    int count = 0;
    for (int g = 0; g < 24; g++) {
      boolean was = xs[g] != NONE;
      boolean in = n.next(16) == 0 ? !was : was;
      if (in && was) {
        xs[g] = Math.min(63, Math.max(0, xs[g] + n.next(7) - 3));
        ys[g] = Math.min(63, Math.max(0, ys[g] + n.next(7) - 3));
      } else if (in) {
        xs[g] = n.next(64);
        ys[g] = n.next(64);
      } else {
        xs[g] = NONE;
        ys[g] = NONE;
      }
      if (in) count++;
    }
    return count;
  }

  private static void duePlaces(HaloTrees t, int picture, int[] xs, int[] ys) {
    for (int g = 0; g < 24; g++) {
      due(8, "grain(" + picture + ", " + g + ", 0)", t.grain(picture, g, 0), xs[g]);
      due(8, "grain(" + picture + ", " + g + ", 1)", t.grain(picture, g, 1), ys[g]);
    }
  }

  private static void edgesOfDrift() {
    HaloTrees t = withPictures(1);
    int[] xs = new int[24], ys = new int[24];
    for (int g = 0; g < 24; g++) {
      xs[g] = g % 2 == 0 ? 0 : 63;
      ys[g] = g % 3 == 0 ? 63 : 0;
      t.put(0, g, xs[g], ys[g]);
    }
    due(8, "drift(31) from the rims", t.drift(31), carryOn(31, xs, ys));
    duePlaces(t, 1, xs, ys);
  }

  private static void promise9() {
    HaloTrees t = new HaloTrees();
    due(9, "undo()", t.undo(), NOT);
    t.picture();
    t.put(0, 0, 1, 2);
    t.weigh(0, 4);
    t.bound(0, 3);
    t.bound(1, 7);
    t.lose(0, 0);
    t.drift(5);
    t.drop();
    due(9, "told(7)", t.told(7), 8);
    due(9, "undo() of drop", t.undo(), 7);
    due(9, "told(0)", t.told(0), 2);
    due(9, "undo() of drift", t.undo(), 6);
    due(9, "told(0)", t.told(0), 1);
    due(9, "undo() of lose", t.undo(), 5);
    due(9, "grain(0, 0, 1)", t.grain(0, 0, 1), 2);
    due(9, "undo() of bound M", t.undo(), 4);
    due(9, "told(2)", t.told(2), 2);
    due(9, "undo() of bound L", t.undo(), 3);
    due(9, "told(1)", t.told(1), 8);
    due(9, "undo() of weigh", t.undo(), 2);
    due(9, "grain(0, 0, 7)", t.grain(0, 0, 7), 1);
    due(9, "undo() of put", t.undo(), 1);
    due(9, "grain(0, 0, 0)", t.grain(0, 0, 0), NONE);
    due(9, "undo() of picture", t.undo(), 0);
    due(9, "told(0)", t.told(0), 0);
    due(9, "undo()", t.undo(), NOT);
    oldestAreLost();
    changesThatChangeNothing();
    HaloTrees seen = twoPictures();
    due(9, "halo(0, 0, 0)", seen.halo(0, 0, 0), 7);
    seen.lose(0, 1);
    due(9, "halo(0, 0, 0)", seen.halo(0, 0, 0), 96);
    seen.undo();
    due(9, "halo(0, 0, 0) behind undo", seen.halo(0, 0, 0), 7);
  }

  private static void oldestAreLost() {
    HaloTrees t = withPictures(1);
    for (int x = 0; x < 20; x++) t.put(0, 0, x, 0);
    due(9, "told(7)", t.told(7), 8);
    for (int left = 7; left >= 0; left--) due(9, "undo()", t.undo(), left);
    due(9, "grain(0, 0, 0)", t.grain(0, 0, 0), 11);
    due(9, "undo()", t.undo(), NOT);
    t.put(0, 0, 50, 0);
    due(9, "undo()", t.undo(), 0);
    due(9, "grain(0, 0, 0)", t.grain(0, 0, 0), 11);
  }

  private static void changesThatChangeNothing() {
    HaloTrees t = withPictures(1);
    t.put(0, 0, 1, 1);
    t.put(0, 0, 1, 1);
    t.weigh(0, 1);
    t.bound(0, 8);
    due(9, "told(7): all that was not refused", t.told(7), 5);
    t.put(0, 24, 1, 1);
    t.lose(0, 5);
    t.weigh(0, 0);
    t.bound(0, 41);
    t.drift(0);
    due(9, "told(7): nothing that was", t.told(7), 5);
    t.ofPicture(0, 2);
    t.undo();
    due(9, "grain(0, 0, 2) behind undo", t.grain(0, 0, 2), 1);
  }

  private static void promise10() {
    HaloTrees t = twoPictures();
    dueEach(10, "told", t::told, 2, 8, 2, 4, 0, 0, 2, 8);
    t.bound(1, 3);
    dueEach(10, "told", t::told, 2, 8, 3, 2, 0, 0, 2, 8);
    t.lose(0, 6);
    t.bound(1, 2);
    t.lose(1, 0);
    // Picture 0 has the chain alone, which goes on in the three of picture 1 by its grain 2.
    dueEach(10, "told", t::told, 2, 8, 2, 2, 0, 0, 2, 8);
    t.put(1, 2, 0, 60);
    // Now the chain's grains are in no halo of picture 1, and 5 and 6 come from nowhere.
    dueEach(10, "told", t::told, 2, 8, 2, 2, 1, 1, 1, 8);
    t.picture();
    due(10, "told(4): picture 1 is not the last any more", t.told(4), 2);
    t.drop();
    t.drop();
    dueEach(10, "told", t::told, 1, 8, 2, 1, 0, 0, 1, 8);
    dueOutside(10, "told(what)", t::told, -1, 8, Integer.MIN_VALUE, Integer.MAX_VALUE);
    mostHalos();
  }

  /** Every grain a halo of its own in every picture, which is the most there can be. */
  private static void mostHalos() {
    HaloTrees t = withPictures(6);
    for (int p = 0; p < 6; p++) for (int g = 0; g < 24; g++) t.put(p, g, 2 * g, p);
    t.bound(0, 1);
    t.bound(1, 1);
    dueEach(10, "told of 144 halos", t::told, 6, 1, 1, 144, 0, 0, 6, 8);
    due(10, "halo(5, 23, 0)", t.halo(5, 23, 0), 1 << 23);
    due(10, "branch(5, 23, 5)", t.branch(5, 23, 5), 23);
    due(10, "branch(5, 23, 6)", t.branch(5, 23, 6), NONE);
    due(10, "from(5, 23)", t.from(5, 23), 1 << 23);
    due(10, "halo(5, 24, 0)", t.halo(5, 24, 0), UNKNOWN);
  }

  private static void promise11() {
    HaloTrees t = twoPictures();
    t.weigh(9, 6);
    // By X: 0, 1, 2, 5, 6, 9: the fourth, 5, is at the top; left of it by Y 0, 1, 2: 1; right 9, 6: 6.
    dueEach(11, "ofPicture(0)", w -> t.ofPicture(0, w), 6, 1 | 2 | 4 | 32 | 64 | 512, 3, 3, 3, 3, 5, 11);
    // By X, then Y: 0, 1, 2, 5, 6: 2 is at the top.
    dueEach(11, "ofPicture(1)", w -> t.ofPicture(1, w), 5, 1 | 2 | 4 | 32 | 64, 4, 2, 2, 3, 2, 5);
    t.picture();
    dueEach(11, "ofPicture(2)", w -> t.ofPicture(2, w), 0, 0, 0, 0, 0, 0, NONE, 0);
    dueUnknown(11, "ofPicture(picture, 8)", p -> t.ofPicture(p, 8), -1, 3, 6, Integer.MIN_VALUE, Integer.MAX_VALUE);
    dueOutside(11, "ofPicture(0, what)", w -> t.ofPicture(0, w), -1, 8, Integer.MIN_VALUE, Integer.MAX_VALUE);
    HaloTrees full = withPictures(1);
    for (int g = 0; g < 24; g++) full.put(0, g, 7, 7);
    dueEach(11, "all at one place", w -> full.ofPicture(0, w), 24, (1 << 24) - 1, 276, 1, 1, 5, 12, 24);
  }

  private static void promise12() {
    HaloTrees t = twoPictures();
    t.weigh(1, 3);
    dueEach(12, "grain(0, 1)", w -> t.grain(0, 1, w), 8, 0, 7, 0, 2, 1, 1, 3);
    dueEach(12, "grain(0, 0)", w -> t.grain(0, 0, w), 0, 0, 7, 0, 1, 0, 2, 1);
    dueEach(12, "grain(0, 6)", w -> t.grain(0, 6, w), 40, 48, 96, 1, 1, 0, 1, 1);
    dueEach(12, "grain(0, 9)", w -> t.grain(0, 9, w), 63, 0, 512, NONE, 0, 0, 2, 1);
    dueEach(12, "grain(1, 9)", w -> t.grain(1, 9, w), NONE, NONE, 0, NONE, 0, 0, NONE, 1);
    dueUnknown(12, "grain(picture, 0, 9)", p -> t.grain(p, 0, 9), -1, 2, 6, Integer.MIN_VALUE, Integer.MAX_VALUE);
    dueUnknown(12, "grain(0, grain, 9)", g -> t.grain(0, g, 9), -1, 24, Integer.MIN_VALUE, Integer.MAX_VALUE);
    dueOutside(12, "grain(0, 0, what)", w -> t.grain(0, 0, w), -1, 8, Integer.MIN_VALUE, Integer.MAX_VALUE);
    dueOutside(12, "grain(1, 9, what), not in it", w -> t.grain(1, 9, w), -1, 8);
    ringHoldsWithoutAny();
  }

  /** Four in a ring of links: each is linked to two, and none holds it together. */
  private static void ringHoldsWithoutAny() {
    HaloTrees t = withPictures(1);
    lay(t, 0, 3, 10, 10, 4, 18, 10, 5, 18, 18, 6, 10, 18);
    for (int g = 3; g < 7; g++) {
      due(12, "ring, links of " + g, t.grain(0, g, 4), 2);
      due(12, "ring, held by " + g, t.grain(0, g, 5), 0);
    }
    t.put(0, 23, 2, 10);
    due(12, "with a tail, held by 3", t.grain(0, 3, 5), 1);
    due(12, "the tail itself", t.grain(0, 23, 5), 0);
  }

  private static void promise13() {
    HaloTrees t = twoPictures();
    // Picture 1: 2, 5 and 6 weigh most; 0 and 1 are halo 1. The chain 0, 1, 2 goes on in 0 and 1.
    dueEach(13, "halo(0, 0)", w -> t.halo(0, 0, w), 7, 3, 1, 0, NONE, 1, 3, 1);
    dueEach(13, "halo(0, 1)", w -> t.halo(0, 1, w), 96, 2, 0, 0, NONE, 1, 2, 0);
    dueEach(13, "halo(1, 0)", w -> t.halo(1, 0, w), 4 | 96, 3, NONE, 1, 1, 2, 1, 0);
    dueEach(13, "halo(1, 1)", w -> t.halo(1, 1, w), 3, 2, NONE, 1, 0, 2, -1, 0);
    t.weigh(2, 2);
    // Of like weight, 2 and 2, the least number: the chain goes on in halo 0 now.
    due(13, "halo(0, 0, 2)", t.halo(0, 0, 2), 0);
    due(13, "halo(0, 0, 7)", t.halo(0, 0, 7), 2);
    due(13, "halo(1, 0, 3)", t.halo(1, 0, 3), 2);
    due(13, "halo(1, 0, 4)", t.halo(1, 0, 4), 0);
    due(13, "halo(1, 0, 6)", t.halo(1, 0, 6), 0);
    due(13, "halo(1, 1, 4)", t.halo(1, 1, 4), NONE);
    t.bound(1, 3);
    t.lose(1, 2);
    due(13, "goes on nowhere: all that are there strayed", t.halo(0, 0, 7), 2);
    due(13, "halo(0, 0, 2)", t.halo(0, 0, 2), NONE);
    dueUnknown(13, "halo(picture, 0, 9)", p -> t.halo(p, 0, 9), -1, 1, 2, 6, Integer.MIN_VALUE, Integer.MAX_VALUE);
    dueUnknown(13, "halo(0, halo, 9)", h -> t.halo(0, h, 9), -1, 1, 24, Integer.MIN_VALUE, Integer.MAX_VALUE);
    dueOutside(13, "halo(0, 0, what)", w -> t.halo(0, 0, w), -1, 8, Integer.MIN_VALUE, Integer.MAX_VALUE);
    numbersOfHalos();
    HaloTrees dropped = twoPictures();
    dropped.drop();
    due(13, "strayed, the next picture dropped", dropped.halo(0, 0, 7), 0);
    due(13, "goes on, the next picture dropped", dropped.halo(0, 0, 2), NONE);
    HaloTrees six = withPictures(6);
    lay(six, 5, 0, 0, 0, 1, 1, 1);
    dueEach(13, "a halo of the last of six", w -> six.halo(5, 0, w), 3, 2, NONE, 0, NONE, 1, 2, 0);
  }

  /** Of like weights the lesser least grain comes first, wherever the clump lies and however many it has. */
  private static void numbersOfHalos() {
    HaloTrees t = withPictures(1);
    lay(t, 0, 0, 50, 50, 1, 0, 0, 2, 30, 0, 3, 0, 1, 4, 30, 1, 5, 50, 51, 6, 0, 40);
    t.weigh(6, 9);
    t.weigh(5, 2);
    t.weigh(2, 1);
    due(13, "the heaviest, one alone", t.halo(0, 0, 0), 64);
    due(13, "then weight 3", t.halo(0, 1, 0), 1 | 32);
    due(13, "then weight 2, by the least grain", t.halo(0, 2, 0), 2 | 8);
    due(13, "then the other", t.halo(0, 3, 0), 4 | 16);
    due(13, "no more", t.halo(0, 4, 0), UNKNOWN);
  }

  private static void promise14() {
    HaloTrees t = twoPictures();
    due(14, "from(1, 0)", t.from(1, 0), 2);
    due(14, "from(1, 1)", t.from(1, 1), 1);
    due(14, "from(0, 0)", t.from(0, 0), 0);
    t.weigh(2, 2);
    due(14, "from(1, 0)", t.from(1, 0), 3);
    due(14, "from(1, 1)", t.from(1, 1), 0);
    dueUnknown(14, "from(picture, 0)", p -> t.from(p, 0), -1, 2, 6, Integer.MIN_VALUE, Integer.MAX_VALUE);
    dueUnknown(14, "from(1, halo)", h -> t.from(1, h), -1, 2, 24, Integer.MIN_VALUE, Integer.MAX_VALUE);
  }

  private static void promise15() {
    HaloTrees t = twoPictures();
    t.picture();
    lay(t, 2, 5, 0, 0, 6, 1, 0, 0, 40, 0, 1, 41, 0, 2, 42, 0, 9, 43, 0);
    // Picture 2: halo 0 is 0, 1, 2, 9; halo 1 is 5, 6. Halo 0 of picture 1 (2, 5, 6) goes on in 5, 6.
    dueEach(15, "branch(2, 0)", k -> t.branch(2, 0, k), 0, 1, 0, NONE, NONE);
    dueEach(15, "branch(2, 1)", k -> t.branch(2, 1, k), 1, 0, 1, NONE, NONE);
    dueEach(15, "branch(1, 0)", k -> t.branch(1, 0, k), 0, 1, NONE);
    dueEach(15, "branch(0, 1)", k -> t.branch(0, 1, k), 1, NONE);
    due(15, "halo(2, 0, 5)", t.halo(2, 0, 5), 3);
    due(15, "branch(2, 0, greatest)", t.branch(2, 0, Integer.MAX_VALUE), NONE);
    dueOutside(15, "branch(2, 0, k)", k -> t.branch(2, 0, k), -1, Integer.MIN_VALUE);
    dueUnknown(15, "branch(picture, 0, -1)", p -> t.branch(p, 0, -1), -1, 3, 6, Integer.MIN_VALUE, Integer.MAX_VALUE);
    dueUnknown(15, "branch(2, halo, -1)", h -> t.branch(2, h, -1), -1, 2, 24, Integer.MIN_VALUE, Integer.MAX_VALUE);
  }

  private static void promise16() {
    HaloTrees t = twoPictures();
    t.weigh(1, 4);
    t.weigh(2, 3);
    // Now 2, 5, 6 weigh 5 and 0, 1 weigh 5 too: that with grain 0 is halo 0.
    due(16, "common(0, 0, 0)", t.common(0, 0, 0), 5);
    due(16, "common(0, 0, 1)", t.common(0, 0, 1), 3);
    due(16, "common(0, 1, 0)", t.common(0, 1, 0), 0);
    due(16, "common(0, 1, 1)", t.common(0, 1, 1), 2);
    due(16, "common(1, 0, 0): no next picture", t.common(1, 0, 0), UNKNOWN);
    dueUnknown(16, "common(picture, 0, 0)", p -> t.common(p, 0, 0), -1, 1, 2, 5, 6, Integer.MIN_VALUE, Integer.MAX_VALUE);
    dueUnknown(16, "common(0, halo, 0)", h -> t.common(0, h, 0), -1, 2, 24, Integer.MIN_VALUE, Integer.MAX_VALUE);
    dueUnknown(16, "common(0, 0, next)", h -> t.common(0, 0, h), -1, 2, 24, Integer.MIN_VALUE, Integer.MAX_VALUE);
  }

  /** At depth 2 it goes by X again: 4 at the top, below it 2 and 6 by Y, below 2 the grain 0, and 1 to its left. */
  private static HaloTrees deeper() {
    HaloTrees t = withPictures(1);
    lay(t, 0, 0, 3, 0, 1, 2, 5, 2, 1, 10, 3, 0, 20, 4, 10, 0, 5, 20, 0, 6, 21, 30, 7, 22, 60);
    return t;
  }

  private static void promise17() {
    HaloTrees t = twoPictures();
    t.weigh(1, 5);
    // The tree of picture 0: 5 at the top, 1 (with 0, 2) to the left, 6 (with 9 to its left) to the right.
    dueEach(17, "within(0, 8, 0, 64)", w -> t.within(0, 8, 0, 64, w), 3, 7, 7, 4);
    dueEach(17, "within(0, 8, 0, 63)", w -> t.within(0, 8, 0, 63, w), 1, 2, 5, 4);
    dueEach(17, "within(0, 8, 1, 0)", w -> t.within(0, 8, 1, 0, w), 0, 0, 0, 3);
    dueEach(17, "within(0, 40, 40, 0)", w -> t.within(0, 40, 40, 0, w), 1, 32, 1, 5);
    dueEach(17, "within(0, 63, 63, 9999)", w -> t.within(0, 63, 63, 9999, w), 6, 1 | 2 | 4 | 32 | 64 | 512, 10, 6);
    dueEach(17, "within(0, 63, 63, 0)", w -> t.within(0, 63, 63, 0, w), 0, 0, 0, 2);
    dueEach(17, "within(0, 63, 63, 225)", w -> t.within(0, 63, 63, 225, w), 0, 0, 0, 3);
    dueEach(17, "within(0, 63, 63, 224)", w -> t.within(0, 63, 63, 224, w), 0, 0, 0, 2);
    HaloTrees deep = deeper();
    due(17, "depth 2, d 1 and w 0: not to the left", deep.within(0, 4, 0, 0, 3), 3);
    due(17, "depth 2, d 1 and w 1: to the left", deep.within(0, 4, 0, 1, 3), 4);
    due(17, "depth 2, d 0: to the left", deep.within(0, 3, 0, 0, 3), 4);
    t.picture();
    dueEach(17, "without grains", w -> t.within(2, 0, 0, 9999, w), 0, 0, 0, 0);
    dueUnknown(17, "within(picture, 99, 99, -1, 9)", p -> t.within(p, 99, 99, -1, 9), -1, 3, 6, Integer.MIN_VALUE, Integer.MAX_VALUE);
    dueOutside(17, "within(0, x, 0, 0, 0)", x -> t.within(0, x, 0, 0, 0), -1, 64, Integer.MIN_VALUE, Integer.MAX_VALUE);
    dueOutside(17, "within(0, 0, y, 0, 0)", y -> t.within(0, 0, y, 0, 0), -1, 64, Integer.MIN_VALUE, Integer.MAX_VALUE);
    dueOutside(17, "within(0, 0, 0, w, 0)", w -> t.within(0, 0, 0, w, 0), -1, 10000, Integer.MIN_VALUE, Integer.MAX_VALUE);
    dueOutside(17, "within(0, 0, 0, 0, what)", w -> t.within(0, 0, 0, 0, w), -1, 4, Integer.MIN_VALUE, Integer.MAX_VALUE);
  }

  private static void promise18() {
    HaloTrees t = twoPictures();
    due(18, "nearest(0, 0, 63): 6 by 1825, 5 by 2129", t.nearest(0, 0, 63), 6);
    due(18, "nearest(0, 4, 0): of like ones the least", t.nearest(0, 4, 0), 0);
    due(18, "nearest(0, 5, 0)", t.nearest(0, 5, 0), 1);
    due(18, "nearest(0, 63, 0)", t.nearest(0, 63, 0), 9);
    due(18, "nearest(1, 63, 63)", t.nearest(1, 63, 63), 5);
    t.picture();
    due(18, "nearest without grains", t.nearest(2, 0, 0), NONE);
    dueUnknown(18, "nearest(picture, 99, 99)", p -> t.nearest(p, 99, 99), -1, 3, 6, Integer.MIN_VALUE, Integer.MAX_VALUE);
    dueOutside(18, "nearest(2, x, 0)", x -> t.nearest(2, x, 0), -1, 64, Integer.MIN_VALUE, Integer.MAX_VALUE);
    dueOutside(18, "nearest(2, 0, y)", y -> t.nearest(2, 0, y), -1, 64, Integer.MIN_VALUE, Integer.MAX_VALUE);
  }

  private static void promise19() {
    HaloTrees t = twoPictures();
    dueEach(19, "below(0, 5)", s -> t.below(0, 5, s), 1, 6);
    dueEach(19, "below(0, 1)", s -> t.below(0, 1, s), 0, 2);
    dueEach(19, "below(0, 6)", s -> t.below(0, 6, s), 9, NONE);
    dueEach(19, "below(0, 9)", s -> t.below(0, 9, s), NONE, NONE);
    dueEach(19, "below(0, 3), not in it", s -> t.below(0, 3, s), NONE, NONE);
    // Picture 1: 2 at the top; left 0 (0, 0), 1 (0, 3), by Y: 1; right 5 (50, 53), 6 (53, 50), by Y: 5.
    dueEach(19, "below(1, 2)", s -> t.below(1, 2, s), 1, 5);
    dueEach(19, "below(1, 5)", s -> t.below(1, 5, s), 6, NONE);
    HaloTrees deep = deeper();
    dueEach(19, "deep, below(0, 4)", s -> deep.below(0, 4, s), 2, 6);
    dueEach(19, "deep, below(0, 2)", s -> deep.below(0, 2, s), 0, 3);
    dueEach(19, "deep, below(0, 0)", s -> deep.below(0, 0, s), 1, NONE);
    dueEach(19, "deep, below(0, 6)", s -> deep.below(0, 6, s), 5, 7);
    due(19, "deep, grain(0, 1, 6)", deep.grain(0, 1, 6), 3);
    due(19, "deep, ofPicture(0, 5)", deep.ofPicture(0, 5), 4);
    dueUnknown(19, "below(picture, 0, 2)", p -> t.below(p, 0, 2), -1, 2, 6, Integer.MIN_VALUE, Integer.MAX_VALUE);
    dueUnknown(19, "below(0, grain, 2)", g -> t.below(0, g, 2), -1, 24, Integer.MIN_VALUE, Integer.MAX_VALUE);
    dueOutside(19, "below(0, 3, side)", s -> t.below(0, 3, s), -1, 2, Integer.MIN_VALUE, Integer.MAX_VALUE);
  }

  private static void promise20() {
    HaloTrees t = twoPictures();
    due(20, "steps(0, 0, 1)", t.steps(0, 0, 1), 1);
    due(20, "steps(0, 0, 2)", t.steps(0, 0, 2), 2);
    due(20, "steps(0, 2, 0)", t.steps(0, 2, 0), 2);
    due(20, "steps(0, 9, 9)", t.steps(0, 9, 9), 0);
    due(20, "steps(0, 0, 5)", t.steps(0, 0, 5), NONE);
    due(20, "steps(0, 0, 3)", t.steps(0, 0, 3), NONE);
    due(20, "steps(0, 3, 0)", t.steps(0, 3, 0), NONE);
    due(20, "steps(0, 3, 3)", t.steps(0, 3, 3), NONE);
    t.bound(0, 16);
    due(20, "steps(0, 0, 2) by a longer one", t.steps(0, 0, 2), 1);
    dueUnknown(20, "steps(picture, 0, 0)", p -> t.steps(p, 0, 0), -1, 2, 6, Integer.MIN_VALUE, Integer.MAX_VALUE);
    dueUnknown(20, "steps(0, grain, 0)", g -> t.steps(0, g, 0), -1, 24, Integer.MIN_VALUE, Integer.MAX_VALUE);
    dueUnknown(20, "steps(0, 0, other)", g -> t.steps(0, 0, g), -1, 24, Integer.MIN_VALUE, Integer.MAX_VALUE);
    HaloTrees chain = withPictures(1);
    for (int g = 0; g < 24; g++) chain.put(0, g, 2 * g, 0);
    chain.bound(0, 2);
    due(20, "the longest chain", chain.steps(0, 0, 23), 23);
    due(20, "the longest chain, back", chain.steps(0, 23, 0), 23);
  }

  private static void promise21() {
    HaloTrees t = twoPictures();
    due(21, "clumps(0, 0)", t.clumps(0, 0), 6);
    due(21, "clumps(0, 7)", t.clumps(0, 7), 6);
    due(21, "clumps(0, 8)", t.clumps(0, 8), 3);
    due(21, "clumps(0, 46): 2116", t.clumps(0, 46), 3);
    due(21, "clumps(0, 47): 2209, 2 to 5 being 2176 and 9 to 5 2129", t.clumps(0, 47), 1);
    due(21, "clumps(1, 2)", t.clumps(1, 2), 5);
    due(21, "clumps(1, 3)", t.clumps(1, 3), 2);
    due(21, "clumps(1, 68): 1 to 2 is 4709", t.clumps(1, 68), 2);
    due(21, "clumps(1, 69)", t.clumps(1, 69), 1);
    due(21, "clumps(0, 90)", t.clumps(0, 90), 1);
    due(21, "L stays as it was", t.ofPicture(0, 3), 3);
    t.picture();
    due(21, "clumps without grains", t.clumps(2, 90), 0);
    dueUnknown(21, "clumps(picture, 91)", p -> t.clumps(p, 91), -1, 3, 6, Integer.MIN_VALUE, Integer.MAX_VALUE);
    dueOutside(21, "clumps(0, length)", l -> t.clumps(0, l), -1, 91, Integer.MIN_VALUE, Integer.MAX_VALUE);
  }

  private static void promise22() {
    HaloTrees t = twoPictures();
    due(22, "join(0, 0, 2)", t.join(0, 0, 2), 8);
    due(22, "join(0, 2, 0)", t.join(0, 2, 0), 8);
    due(22, "join(0, 9, 2): 2209", t.join(0, 9, 2), 47);
    due(22, "join(0, 9, 0): by 2, 1", t.join(0, 9, 0), 47);
    due(22, "join(0, 0, 5): by 2, 2176", t.join(0, 0, 5), 47);
    due(22, "join(1, 6, 0): by 2, 1, 4709", t.join(1, 6, 0), 69);
    due(22, "join(0, 0, 3)", t.join(0, 0, 3), NONE);
    due(22, "join(0, 3, 0)", t.join(0, 3, 0), NONE);
    due(22, "join(0, 0, 0)", t.join(0, 0, 0), UNKNOWN);
    due(22, "join(0, 3, 3)", t.join(0, 3, 3), UNKNOWN);
    dueUnknown(22, "join(picture, 0, 1)", p -> t.join(p, 0, 1), -1, 2, 6, Integer.MIN_VALUE, Integer.MAX_VALUE);
    dueUnknown(22, "join(0, grain, 1)", g -> t.join(0, g, 1), -1, 24, Integer.MIN_VALUE, Integer.MAX_VALUE);
    dueUnknown(22, "join(0, 1, other)", g -> t.join(0, 1, g), -1, 24, Integer.MIN_VALUE, Integer.MAX_VALUE);
    HaloTrees corners = withPictures(1);
    lay(corners, 0, 7, 0, 0, 8, 63, 63, 9, 0, 0);
    due(22, "from corner to corner", corners.join(0, 7, 8), 90);
    due(22, "at one place", corners.join(0, 9, 7), 0);
    due(22, "clumps(0, 89)", corners.clumps(0, 89), 2);
    corners.put(0, 10, 32, 31);
    due(22, "with one between", corners.join(0, 7, 8), 45);
  }

  private static void promise23() {
    HaloTrees t = twoPictures();
    due(23, "keep(2)", t.keep(2), UNKNOWN);
    due(23, "told(7)", t.told(7), 8);
    due(23, "keep(1)", t.keep(1), 2);
    due(23, "told(7)", t.told(7), 0);
    due(23, "undo()", t.undo(), NOT);
    t.drop();
    due(23, "keep(0)", t.keep(0), 1);
    t.weigh(0, 9);
    t.bound(0, 1);
    t.bound(1, 50);
    t.put(0, 0, 33, 34);
    due(23, "goBack(1)", t.goBack(1), 2);
    due(23, "grain(0, 0, 7)", t.grain(0, 0, 7), 1);
    due(23, "told(1)", t.told(1), 8);
    due(23, "told(2)", t.told(2), 2);
    due(23, "grain(0, 0, 0)", t.grain(0, 0, 0), 0);
    due(23, "ofPicture(1, 0)", t.ofPicture(1, 0), 5);
    due(23, "goBack(0)", t.goBack(0), 1);
    t.picture();
    t.picture();
    due(23, "keep(0) over what it was", t.keep(0), 3);
    due(23, "goBack(1)", t.goBack(1), 2);
    due(23, "goBack(0)", t.goBack(0), 3);
    dueUnknown(23, "keep(i)", t::keep, -1, 2, Integer.MIN_VALUE, Integer.MAX_VALUE);
    due(23, "keep(0) of a new object", new HaloTrees().keep(0), 0);
  }

  private static void promise24() {
    HaloTrees t = twoPictures();
    due(24, "goBack(0)", t.goBack(0), NOT);
    due(24, "told(7): nothing is lost by what is refused", t.told(7), 8);
    t.keep(0);
    due(24, "goBack(1)", t.goBack(1), NOT);
    t.drop();
    t.weigh(5, 5);
    t.told(3);
    due(24, "goBack(0)", t.goBack(0), 2);
    due(24, "told(3)", t.told(3), 4);
    due(24, "told(7)", t.told(7), 0);
    due(24, "undo()", t.undo(), NOT);
    t.put(0, 0, 9, 9);
    t.told(3);
    due(24, "goBack(0) once more: changes do not reach the image", t.goBack(0), 2);
    due(24, "grain(0, 0, 0)", t.grain(0, 0, 0), 0);
    due(24, "grain(0, 0, 2)", t.grain(0, 0, 2), 7);
    dueUnknown(24, "goBack(i)", t::goBack, -1, 2, Integer.MIN_VALUE, Integer.MAX_VALUE);
  }

  public static void main(String[] args) {
    promise1();
    promise2();
    promise3();
    promise4();
    promise5();
    promise6();
    promise7();
    promise8();
    promise9();
    promise10();
    promise11();
    promise12();
    promise13();
    promise14();
    promise15();
    promise16();
    promise17();
    promise18();
    promise19();
    promise20();
    promise21();
    promise22();
    promise23();
    promise24();
    System.out.println(asked + " answers, " + wrong + " not as due");
    if (wrong != 0) System.exit(1);
  }
}
