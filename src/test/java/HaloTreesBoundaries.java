/** One test for each sentence of the document that names a boundary case; answers reckoned by hand. */
public final class HaloTreesBoundaries {
  private static final int NONE = -1, UNKNOWN = -1000000001, OUTSIDE = -1000000002, NOT = -1000000003, FULL = -1000000004;
  private static final int ALL_GRAINS = 16777215;
  private static String sentence = "";
  private static int sentences = 0;
  private static int answers = 0;
  private static int wrong = 0;

  private interface Test { void run(); }

  private interface Asked { int by(int number); }

  private static void holds(String words, Test test) {
    sentence = words;
    sentences++;
    test.run();
  }

  private static void due(String call, int got, int want) {
    answers++;
    if (got != want) {
      wrong++;
      System.out.println(sentence + ": " + call + " answered " + got + ", due is " + want);
    }
  }

  private static void dueEach(String call, Asked asked, int... wanted) {
    for (int number = 0; number < wanted.length; number++) due(call + " by " + number, asked.by(number), wanted[number]);
  }

  /** The last number that is taken and the first that is refused on each side. */
  private static void dueBounds(String call, Asked asked, int low, int high, int refusal) {
    for (int taken : new int[] {low, high}) {
      int got = asked.by(taken);
      due(call + " by " + taken + " is refused by " + got, got <= UNKNOWN ? 1 : 0, 0);
    }
    for (int refused : new int[] {low - 1, high + 1, Integer.MIN_VALUE, Integer.MAX_VALUE}) {
      due(call + " by " + refused, asked.by(refused), refusal);
    }
  }

  private static HaloTrees withPictures(int count) {
    HaloTrees t = new HaloTrees();
    for (int i = 0; i < count; i++) t.picture();
    return t;
  }

  /** Places as grain, x, y one behind the other. */
  private static void lay(HaloTrees t, int picture, int... places) {
    for (int i = 0; i + 2 < places.length; i += 3) t.put(picture, places[i], places[i + 1], places[i + 2]);
  }

  private static HaloTrees onePicture(int... places) {
    HaloTrees t = withPictures(1);
    lay(t, 0, places);
    return t;
  }

  private static void layAt(HaloTrees t, int picture, int x, int y, int... grains) {
    for (int grain : grains) t.put(picture, grain, x, y);
  }

  private static HaloTrees fullPicture() {
    HaloTrees t = withPictures(1);
    for (int g = 0; g < 24; g++) t.put(0, g, 2 * g, 0);
    return t;
  }

  // ---- What it is, and Terms

  private static void calls512() {
    HaloTrees put = withPictures(1);
    for (int call = 2; call < 512; call++) put.put(0, call % 24, call % 64, call / 64);
    // Call 504 was the last that put grain 0.
    due("the 512th, behind as many put", put.grain(0, 0, 0), 504 % 64);
    HaloTrees drift = new HaloTrees();
    for (int call = 1; call < 511; call += 2) {
      drift.drift(call);
      drift.drop();
    }
    drift.drift(1);
    due("the 512th, behind as many drift and drop", drift.ofPicture(0, 0), new HaloTrees().drift(1));
    HaloTrees undo = new HaloTrees();
    for (int call = 1; call < 511; call += 2) {
      undo.picture();
      undo.undo();
    }
    undo.picture();
    due("the 512th, behind as many picture and undo", undo.undo(), 0);
    HaloTrees keep = withPictures(2);
    for (int call = 3; call < 512; call++) {
      if (call % 2 == 0) keep.keep(0); else keep.goBack(0);
    }
    due("the 512th, behind as many keep and goBack", keep.goBack(0), 2);
    HaloTrees full = withPictures(6);
    for (int call = 7; call < 512; call++) full.picture();
    due("the 512th, behind as many refused", full.picture(), FULL);
    HaloTrees ask = onePicture(0, 0, 0, 1, 8, 0);
    for (int call = 4; call < 512; call++) ask.join(0, 0, 1);
    due("the 512th, behind as many join", ask.ofPicture(0, 3), 1);
  }

  private static void setsOfGrains() {
    HaloTrees t = onePicture(0, 5, 5);
    due("grain 0 alone", t.ofPicture(0, 1), 1);
    t.put(0, 23, 60, 60);
    due("with grain 23", t.ofPicture(0, 1), 8388609);
    due("clump of grain 23", t.grain(0, 23, 2), 8388608);
    due("within, a set", t.within(0, 60, 60, 0, 1), 8388608);
    HaloTrees full = fullPicture();
    due("all", full.ofPicture(0, 1), ALL_GRAINS);
    due("all, their clump", full.grain(0, 0, 2), ALL_GRAINS);
    due("all, their halo", full.halo(0, 0, 0), ALL_GRAINS);
    due("all, within", full.within(0, 0, 0, 9999, 1), ALL_GRAINS);
  }

  private static void constants() {
    due("NONE", HaloTrees.NONE, -1);
    due("UNKNOWN", HaloTrees.UNKNOWN, -1000000001);
    due("OUTSIDE", HaloTrees.OUTSIDE, -1000000002);
    due("NOT", HaloTrees.NOT, -1000000003);
    due("FULL", HaloTrees.FULL, -1000000004);
  }

  // ---- Terms, 1

  private static void boundsOfGrain() {
    HaloTrees t = fullPicture();
    dueBounds("weigh(grain, 5)", g -> t.weigh(g, 5), 0, 23, UNKNOWN);
    dueBounds("put(0, grain, 5, 5)", g -> t.put(0, g, 5, 5), 0, 23, UNKNOWN);
    dueBounds("grain(0, grain, 0)", g -> t.grain(0, g, 0), 0, 23, UNKNOWN);
    dueBounds("below(0, grain, 0)", g -> t.below(0, g, 0), 0, 23, UNKNOWN);
    dueBounds("steps(0, grain, 9)", g -> t.steps(0, g, 9), 0, 23, UNKNOWN);
    dueBounds("steps(0, 9, other)", g -> t.steps(0, 9, g), 0, 23, UNKNOWN);
    dueBounds("join(0, grain, 9)", g -> t.join(0, g, 9), 0, 23, UNKNOWN);
    dueBounds("join(0, 9, other)", g -> t.join(0, 9, g), 0, 23, UNKNOWN);
    dueBounds("lose(0, grain)", g -> t.lose(0, g), 0, 23, UNKNOWN);
  }

  private static void boundsOfWeight() {
    HaloTrees t = withPictures(1);
    for (int g = 0; g < 24; g++) due("1 at first, grain " + g, t.grain(0, g, 7), 1);
    dueBounds("weigh(3, weight)", w -> t.weigh(3, w), 1, 9, OUTSIDE);
    due("grain(0, 3, 7): the last that was taken", t.grain(0, 3, 7), 9);
    due("weigh(3, 1)", t.weigh(3, 1), 9);
    due("weigh(3, 0)", t.weigh(3, 0), OUTSIDE);
    due("grain(0, 3, 7)", t.grain(0, 3, 7), 1);
    t.weigh(3, 9);
    due("each has its own: grain 2", t.grain(0, 2, 7), 1);
    due("each has its own: grain 4", t.grain(0, 4, 7), 1);
  }

  /** In each picture grains 0 and 1 at one place: a halo. With count of them the last is taken and one more is not. */
  private static void boundsOfPicture() {
    for (int count = 1; count <= 6; count++) {
      HaloTrees t = withPictures(count);
      for (int p = 0; p < count; p++) layAt(t, p, 9, 9, 0, 1, 2);
      int last = count - 1;
      dueBounds("ofPicture(picture, 0)", p -> t.ofPicture(p, 0), 0, last, UNKNOWN);
      dueBounds("grain(picture, 0, 0)", p -> t.grain(p, 0, 0), 0, last, UNKNOWN);
      dueBounds("halo(picture, 0, 0)", p -> t.halo(p, 0, 0), 0, last, UNKNOWN);
      dueBounds("from(picture, 0)", p -> t.from(p, 0), 0, last, UNKNOWN);
      dueBounds("branch(picture, 0, 0)", p -> t.branch(p, 0, 0), 0, last, UNKNOWN);
      if (last > 0) dueBounds("common(picture, 0, 0)", p -> t.common(p, 0, 0), 0, last - 1, UNKNOWN);
      dueBounds("within(picture, 9, 9, 0, 0)", p -> t.within(p, 9, 9, 0, 0), 0, last, UNKNOWN);
      dueBounds("nearest(picture, 9, 9)", p -> t.nearest(p, 9, 9), 0, last, UNKNOWN);
      dueBounds("below(picture, 0, 0)", p -> t.below(p, 0, 0), 0, last, UNKNOWN);
      dueBounds("steps(picture, 0, 1)", p -> t.steps(p, 0, 1), 0, last, UNKNOWN);
      dueBounds("clumps(picture, 5)", p -> t.clumps(p, 5), 0, last, UNKNOWN);
      dueBounds("join(picture, 0, 1)", p -> t.join(p, 0, 1), 0, last, UNKNOWN);
      dueBounds("put(picture, 5, 1, 1)", p -> t.put(p, 5, 1, 1), 0, last, UNKNOWN);
      dueBounds("lose(picture, 5), put just now", p -> putAndLose(t, p), 0, last, UNKNOWN);
    }
  }

  private static int putAndLose(HaloTrees t, int picture) {
    t.put(picture, 5, 1, 1);
    return t.lose(picture, 5);
  }

  private static void noPicturesAtFirst() {
    HaloTrees t = new HaloTrees();
    due("told(0)", t.told(0), 0);
    due("put(0, 0, 0, 0)", t.put(0, 0, 0, 0), UNKNOWN);
    due("lose(0, 0)", t.lose(0, 0), UNKNOWN);
    due("ofPicture(0, 0)", t.ofPicture(0, 0), UNKNOWN);
    due("grain(0, 0, 0)", t.grain(0, 0, 0), UNKNOWN);
    due("halo(0, 0, 0)", t.halo(0, 0, 0), UNKNOWN);
    due("from(0, 0)", t.from(0, 0), UNKNOWN);
    due("branch(0, 0, 0)", t.branch(0, 0, 0), UNKNOWN);
    due("common(0, 0, 0)", t.common(0, 0, 0), UNKNOWN);
    due("common(-1, 0, 0)", t.common(-1, 0, 0), UNKNOWN);
    due("within(0, 0, 0, 0, 0)", t.within(0, 0, 0, 0, 0), UNKNOWN);
    due("nearest(0, 0, 0)", t.nearest(0, 0, 0), UNKNOWN);
    due("below(0, 0, 0)", t.below(0, 0, 0), UNKNOWN);
    due("steps(0, 0, 1)", t.steps(0, 0, 1), UNKNOWN);
    due("clumps(0, 0)", t.clumps(0, 0), UNKNOWN);
    due("join(0, 0, 1)", t.join(0, 0, 1), UNKNOWN);
  }

  private static void boundsOfPlace() {
    HaloTrees t = withPictures(1);
    for (int x : new int[] {0, 63}) {
      for (int y : new int[] {0, 63}) {
        due("put(0, 7, " + x + ", " + y + ") is taken", t.put(0, 7, x, y) <= UNKNOWN ? 1 : 0, 0);
        due("X of it", t.grain(0, 7, 0), x);
        due("Y of it", t.grain(0, 7, 1), y);
      }
    }
    dueBounds("put(0, 7, x, 20)", x -> t.put(0, 7, x, 20), 0, 63, OUTSIDE);
    due("X, the last that was taken", t.grain(0, 7, 0), 63);
    dueBounds("put(0, 7, 20, y)", y -> t.put(0, 7, 20, y), 0, 63, OUTSIDE);
    due("Y, the last that was taken", t.grain(0, 7, 1), 63);
    due("X", t.grain(0, 7, 0), 20);
  }

  private static void isNotInIt() {
    HaloTrees t = withPictures(2);
    t.put(0, 6, 0, 0);
    dueEach("grain(0, 6), at 0, 0", what -> t.grain(0, 6, what), 0, 0, 64, NONE, 0, 0, 0, 1);
    dueEach("grain(1, 6), in the other picture alone", what -> t.grain(1, 6, what), NONE, NONE, 0, NONE, 0, 0, NONE, 1);
    t.lose(0, 6);
    dueEach("grain(0, 6), lost", what -> t.grain(0, 6, what), NONE, NONE, 0, NONE, 0, 0, NONE, 1);
    due("below, left", t.below(0, 6, 0), NONE);
    due("below, right", t.below(0, 6, 1), NONE);
    due("nearest to where it was", t.nearest(0, 0, 0), NONE);
    due("within, where it was", t.within(0, 0, 0, 9999, 1), 0);
  }

  private static void boundsOfLength() {
    HaloTrees t = new HaloTrees();
    due("8 at first", t.told(1), 8);
    dueBounds("bound(0, v)", v -> t.bound(0, v), 0, 40, OUTSIDE);
    due("the last that was taken", t.told(1), 40);
    due("bound(0, 0)", t.bound(0, 0), 40);
    due("bound(0, -1)", t.bound(0, -1), OUTSIDE);
    due("0 is taken", t.told(1), 0);
  }

  private static void boundsOfLeast() {
    HaloTrees t = new HaloTrees();
    due("2 at first", t.told(2), 2);
    dueBounds("bound(1, v)", v -> t.bound(1, v), 1, 99, OUTSIDE);
    due("the last that was taken", t.told(2), 99);
    due("bound(1, 1)", t.bound(1, 1), 99);
    due("bound(1, 0)", t.bound(1, 0), OUTSIDE);
    due("1 is taken", t.told(2), 1);
  }

  /** Links of two grains so far apart, by each of the four ways that one can lie beside the other. */
  private static void dueLinked(int length, int dx, int dy, int links) {
    int[][] pairs = {{0, 0, dx, dy}, {dx, dy, 0, 0}, {dx, 0, 0, dy}, {63 - dx, 63, 63, 63 - dy}};
    for (int[] pair : pairs) {
      HaloTrees t = onePicture(3, pair[0], pair[1], 20, pair[2], pair[3]);
      t.bound(0, length);
      String call = "L " + length + ", apart by " + dx + " and " + dy;
      due(call + ": links", t.ofPicture(0, 2), links);
      due(call + ": linked to", t.grain(0, 3, 4), links);
      due(call + ": clumps", t.ofPicture(0, 3), 2 - links);
    }
  }

  private static void linkedByLengthOrLess() {
    dueLinked(0, 0, 0, 1);
    dueLinked(0, 1, 0, 0);
    dueLinked(0, 0, 1, 0);
    dueLinked(1, 1, 0, 1);
    dueLinked(1, 1, 1, 0);
    dueLinked(5, 3, 4, 1);
    dueLinked(5, 5, 1, 0);
    dueLinked(8, 8, 0, 1);
    dueLinked(8, 0, 8, 1);
    dueLinked(8, 8, 1, 0);
    dueLinked(8, 4, 7, 0);
    dueLinked(40, 24, 32, 1);
    dueLinked(40, 40, 0, 1);
    dueLinked(40, 40, 1, 0);
    dueLinked(40, 63, 63, 0);
  }

  private static void oneAloneIsOne() {
    HaloTrees t = onePicture(11, 30, 30);
    due("its clump", t.grain(0, 11, 2), 2048);
    due("clumps", t.ofPicture(0, 3), 1);
    due("links", t.ofPicture(0, 2), 0);
    due("clumps by another length", t.clumps(0, 0), 1);
    due("too light for a halo", t.ofPicture(0, 4), 0);
    t.weigh(11, 2);
    due("heavy enough", t.halo(0, 0, 0), 2048);
    t.lose(0, 11);
    due("none is no clump", t.ofPicture(0, 3), 0);
    HaloTrees far = fullPicture();
    far.bound(0, 1);
    due("24 alone", far.ofPicture(0, 3), 24);
  }

  private static void clumpsByOthers() {
    // Each of the 24 is linked to the next alone, and the numbers do not rise along the row.
    HaloTrees t = withPictures(1);
    for (int i = 0; i < 24; i++) t.put(0, i * 7 % 24, 2 * i, 40);
    t.bound(0, 2);
    due("links", t.ofPicture(0, 2), 23);
    due("clumps", t.ofPicture(0, 3), 1);
    due("clump of 0", t.grain(0, 0, 2), ALL_GRAINS);
    t.lose(0, 7 * 7 % 24);
    // Grain 1 lay at the eighth place: 7 are ahead of it and 16 behind.
    due("without one between: links", t.ofPicture(0, 2), 21);
    due("without one between: clumps", t.ofPicture(0, 3), 2);
    due("without one between: the heavier halo", t.halo(0, 0, 1), 16);
    due("without one between: the other", t.halo(0, 1, 1), 7);
  }

  private static void leastOrMore() {
    HaloTrees t = onePicture(0, 10, 10, 1, 10, 10, 2, 10, 10);
    t.bound(1, 3);
    due("weight 3 by least 3", t.ofPicture(0, 4), 1);
    due("grain's halo", t.grain(0, 1, 3), 0);
    t.bound(1, 4);
    due("weight 3 by least 4", t.ofPicture(0, 4), 0);
    due("grain's halo", t.grain(0, 1, 3), NONE);
    HaloTrees light = onePicture(5, 10, 10);
    due("weight 1 by least 2", light.ofPicture(0, 4), 0);
    light.bound(1, 1);
    due("weight 1 by least 1", light.ofPicture(0, 4), 1);
    HaloTrees heavy = withPictures(1);
    for (int g = 0; g < 11; g++) {
      heavy.put(0, g, 3, 3);
      heavy.weigh(g, 9);
    }
    heavy.bound(1, 99);
    due("weight 99 by least 99", heavy.ofPicture(0, 4), 1);
    heavy.weigh(10, 8);
    due("weight 98 by least 99", heavy.ofPicture(0, 4), 0);
  }

  private static void numberedByWeight() {
    HaloTrees t = withPictures(1);
    layAt(t, 0, 0, 0, 0, 1, 2);
    layAt(t, 0, 30, 30, 8);
    layAt(t, 0, 60, 60, 12, 13);
    t.weigh(8, 4);
    t.weigh(12, 9);
    dueEach("the heaviest first, not that of most grains", h -> t.halo(0, h, 1), 10, 4, 3, UNKNOWN);
    dueEach("their grains", h -> t.halo(0, h, 0), 12288, 256, 7);
  }

  private static void likeHalosByLeastGrain() {
    HaloTrees t = withPictures(1);
    layAt(t, 0, 60, 60, 5, 6);
    layAt(t, 0, 0, 0, 7, 8);
    layAt(t, 0, 30, 30, 4, 23);
    dueEach("put in another order, the greatest grain the greatest", h -> t.halo(0, h, 0), 16 | 8388608, 96, 384, UNKNOWN);
    HaloTrees alone = withPictures(1);
    layAt(alone, 0, 0, 0, 1, 2);
    layAt(alone, 0, 30, 30, 3);
    layAt(alone, 0, 60, 60, 0);
    alone.weigh(0, 2);
    alone.weigh(3, 2);
    dueEach("of like weight, but not of like many", h -> alone.halo(0, h, 0), 1, 6, 8, UNKNOWN);
  }

  private static void goesOnByWeight() {
    HaloTrees t = withPictures(2);
    layAt(t, 0, 10, 10, 0, 1, 2);
    layAt(t, 1, 10, 10, 0, 1, 10, 11, 12, 13, 14, 15);
    layAt(t, 1, 50, 50, 2);
    t.weigh(2, 5);
    due("most by weight, not by number, nor the heaviest of them", t.halo(0, 0, 2), 1);
    t.weigh(2, 2);
    due("like ones: the least number", t.halo(0, 0, 2), 0);
    t.weigh(2, 3);
    due("one more", t.halo(0, 0, 2), 1);
  }

  private static void goesOnOfLikeOnes() {
    HaloTrees t = withPictures(2);
    layAt(t, 0, 10, 10, 0, 1);
    layAt(t, 1, 10, 10, 0, 10);
    layAt(t, 1, 50, 50, 1, 11);
    due("0 and 1 apart, in two of like weight", t.halo(0, 0, 2), 0);
    due("it is the one with grain 0", t.halo(1, 0, 0), 1025);
    t.weigh(11, 5);
    due("that with grain 1 is number 0 now", t.halo(1, 0, 0), 2050);
    due("the least number, not the least grain", t.halo(0, 0, 2), 0);
    due("number 1 has none that comes", t.from(1, 1), 0);
  }

  private static void goesOnNowhere() {
    HaloTrees t = withPictures(2);
    layAt(t, 0, 10, 10, 0, 1);
    due("a next picture without grains", t.halo(0, 0, 2), NONE);
    layAt(t, 1, 10, 10, 5, 6, 7);
    due("a halo of others at the same place", t.halo(0, 0, 2), NONE);
    t.put(1, 0, 60, 60);
    due("its grain in a clump that is no halo", t.halo(0, 0, 2), NONE);
    due("the last picture", t.halo(1, 0, 2), NONE);
    t.weigh(0, 2);
    due("heavy enough now", t.halo(0, 0, 2), 1);
    t.drop();
    due("no next picture", t.halo(0, 0, 2), NONE);
    t.picture();
    layAt(t, 1, 0, 0, 9, 10);
    t.picture();
    layAt(t, 2, 0, 0, 0, 1);
    due("the next but one does not count", t.halo(0, 0, 2), NONE);
  }

  private static void comesFrom() {
    HaloTrees t = withPictures(2);
    layAt(t, 0, 0, 0, 0, 1, 2);
    layAt(t, 0, 30, 30, 3, 4);
    layAt(t, 0, 60, 60, 5, 6);
    layAt(t, 1, 20, 20, 0, 1, 5, 6);
    layAt(t, 1, 50, 50, 2, 10);
    due("halos 0 and 2 go on in it", t.from(1, 0), 5);
    due("how many", t.halo(1, 0, 3), 2);
    due("one that has a grain, but not the most", t.from(1, 1), 0);
    due("how many", t.halo(1, 1, 3), 0);
    due("the first picture", t.from(0, 0), 0);
    due("the first picture, how many", t.halo(0, 0, 3), 0);
    t.lose(1, 5);
    t.put(1, 6, 50, 50);
    // 2, 6 and 10 weigh most now: they are halo 0, and 0 and 1 are halo 1.
    due("halo 2 goes on with grain 6", t.from(1, 0), 4);
    due("how many", t.halo(1, 0, 3), 1);
    due("halo 0 with 0 and 1", t.from(1, 1), 1);
  }

  private static void mainIsHeaviest() {
    HaloTrees t = withPictures(2);
    layAt(t, 0, 0, 0, 0, 1);
    layAt(t, 0, 60, 60, 10, 11, 12, 13);
    layAt(t, 1, 20, 20, 0, 1, 10);
    due("the heaviest, though fewer of its grains come", t.halo(1, 0, 4), 0);
    due("it is that of four", t.halo(0, 0, 1), 4);
    due("both come", t.from(1, 0), 3);
    t.weigh(0, 9);
    due("the heaviest now is that of two", t.halo(0, t.halo(1, 0, 4), 0), 3);
    due("the first picture: NONE", t.halo(0, 0, 4), NONE);
  }

  private static void mainOfLikeOnes() {
    HaloTrees t = withPictures(2);
    layAt(t, 0, 0, 0, 2, 3);
    layAt(t, 0, 60, 60, 0, 1);
    layAt(t, 0, 30, 30, 6, 7, 8);
    layAt(t, 1, 20, 20, 0, 1, 2, 3);
    due("of numbers 1 and 2, both of weight 2", t.from(1, 0), 6);
    due("the least number", t.halo(1, 0, 4), 1);
    due("it is that with grain 0", t.halo(0, 1, 0), 3);
    t.lose(1, 0);
    t.lose(1, 1);
    due("it alone: number 2", t.halo(1, 0, 4), 2);
    t.lose(1, 2);
    t.put(1, 9, 20, 20);
    t.lose(1, 3);
    t.put(1, 10, 20, 20);
    due("none: NONE", t.halo(1, 0, 4), NONE);
  }

  private static void branchesOfSix() {
    HaloTrees t = withPictures(6);
    for (int p = 0; p < 6; p++) {
      layAt(t, p, 10, 10, 0, 1);
      if (p % 2 == 0) layAt(t, p, 50, 50, 10, 11, 12);
    }
    due("through all six", t.halo(5, 0, 5), 6);
    dueEach("its numbers", k -> t.branch(5, 0, k), 0, 1, 0, 1, 0, 1, NONE, NONE);
    due("itself alone, in picture 0", t.halo(0, 1, 5), 1);
    dueEach("itself alone", k -> t.branch(0, 1, k), 1, NONE);
    due("the longest", t.told(6), 6);
    t.lose(2, 0);
    due("broken at picture 2", t.halo(5, 0, 5), 3);
    dueEach("its numbers", k -> t.branch(5, 0, k), 0, 1, 0, NONE, NONE);
  }

  // ---- Terms, 2

  private static void knotBehindHalf() {
    HaloTrees none = withPictures(1);
    due("none: the top", none.ofPicture(0, 6), NONE);
    due("none: knots on the longest way", none.ofPicture(0, 5), 0);
    int[] height = {0, 1, 2, 2, 3, 3, 3, 3, 4, 4, 4, 4, 4, 4, 4, 4, 5, 5, 5, 5, 5, 5, 5, 5, 5};
    for (int n = 1; n <= 24; n++) {
      HaloTrees t = withPictures(1);
      for (int g = 0; g < n; g++) t.put(0, g, 2 * g, 7);
      int top = n / 2;
      int behind = n - 1 - top;
      due(n + ": the top", t.ofPicture(0, 6), top);
      due(n + ": knots on the longest way", t.ofPicture(0, 5), height[n]);
      due(n + ": depth of the top", t.grain(0, top, 6), 0);
      due(n + ": below to the left", t.below(0, top, 0), top == 0 ? NONE : top / 2);
      due(n + ": below to the right", t.below(0, top, 1), behind == 0 ? NONE : top + 1 + behind / 2);
    }
    HaloTrees shrinking = fullPicture();
    for (int n = 23; n >= 0; n--) {
      shrinking.lose(0, n);
      due("shrunk to " + n + ": the top", shrinking.ofPicture(0, 6), n == 0 ? NONE : n / 2);
      due("shrunk to " + n + ": knots on the longest way", shrinking.ofPicture(0, 5), height[n]);
      due("shrunk to " + n + ": depth of the one lost", shrinking.grain(0, n, 6), NONE);
    }
  }

  private static void orderAtTop() {
    HaloTrees byX = onePicture(0, 30, 1, 1, 10, 2, 2, 20, 3);
    due("by X: 1, 2, 0", byX.ofPicture(0, 6), 2);
    dueEach("below it", side -> byX.below(0, 2, side), 1, 0);
    HaloTrees byY = onePicture(0, 5, 9, 1, 5, 3, 2, 5, 6);
    due("of like X by Y: 1, 2, 0", byY.ofPicture(0, 6), 2);
    dueEach("below it", side -> byY.below(0, 2, side), 1, 0);
    HaloTrees byNumber = onePicture(9, 5, 5, 7, 5, 5, 4, 5, 5);
    due("at one place by number: 4, 7, 9", byNumber.ofPicture(0, 6), 7);
    dueEach("below it", side -> byNumber.below(0, 7, side), 4, 9);
  }

  /** Below the top, 6, three to the left and three to the right, which have another order by X than by Y. */
  private static void orderAtOddDepths() {
    HaloTrees byY = onePicture(6, 30, 0, 0, 1, 9, 1, 2, 3, 2, 3, 6, 3, 40, 40, 4, 40, 40, 5, 40, 40);
    due("the top", byY.ofPicture(0, 6), 6);
    due("to the left by Y: 1, 2, 0", byY.below(0, 6, 0), 2);
    dueEach("below it", side -> byY.below(0, 2, side), 1, 0);
    due("to the right by number: 3, 4, 5", byY.below(0, 6, 1), 4);
    dueEach("below it", side -> byY.below(0, 4, side), 3, 5);
    HaloTrees byX = onePicture(6, 30, 0, 0, 3, 5, 1, 1, 5, 2, 2, 5, 3, 42, 8, 4, 40, 8, 5, 41, 8);
    due("of like Y by X, to the left: 1, 2, 0", byX.below(0, 6, 0), 2);
    dueEach("below it", side -> byX.below(0, 2, side), 1, 0);
    due("of like Y by X, to the right: 4, 5, 3", byX.below(0, 6, 1), 5);
    dueEach("below it", side -> byX.below(0, 5, side), 4, 3);
  }

  /** 4 at the top, below it 2 and 6 by Y; below 2 the grains 0 and 1, by X again: 0, and 1 to its left. */
  private static HaloTrees fourDeep() {
    return onePicture(0, 3, 0, 1, 2, 5, 2, 1, 10, 3, 0, 20, 4, 10, 0, 5, 20, 0, 6, 21, 30, 7, 22, 60);
  }

  private static void orderAtDepthTwo() {
    HaloTrees t = fourDeep();
    due("the top", t.ofPicture(0, 6), 4);
    due("to the left by Y: 0, 1, 2, 3", t.below(0, 4, 0), 2);
    due("to the left by X: 1, 0", t.below(0, 2, 0), 0);
    due("to the left the last", t.below(0, 0, 0), 1);
    dueEach("depths", g -> t.grain(0, g, 6), 2, 3, 1, 2, 0, 2, 1, 2, NONE);
    due("knots on the longest way", t.ofPicture(0, 5), 4);
  }

  private static void withinAtMost() {
    HaloTrees t = onePicture(4, 10, 10, 5, 0, 0, 6, 63, 63);
    due("way 25 within 25", t.within(0, 13, 14, 25, 1), 16);
    due("way 25 within 24", t.within(0, 13, 14, 24, 1), 0);
    due("the same place within 0", t.within(0, 10, 10, 0, 1), 16);
    due("way 1 within 0", t.within(0, 10, 11, 0, 1), 0);
    due("corner to corner, 7938", t.within(0, 0, 0, 7938, 1), 112);
    due("corner to corner, 7937", t.within(0, 0, 0, 7937, 1), 48);
    due("other corner", t.within(0, 63, 63, 7938, 1), 112);
    t.weigh(4, 3);
    dueEach("within(0, 0, 0, 200)", what -> t.within(0, 0, 0, 200, what), 2, 48, 4, 3);
    dueEach("within(0, 0, 0, 199)", what -> t.within(0, 0, 0, 199, what), 1, 32, 1, 3);
  }

  /** 2 alone has a left below it, 3 have one to each side; all at Y 30, so that the leaves go by it and have none below. */
  private static void lookedAtByX() {
    HaloTrees left = onePicture(0, 10, 30, 1, 20, 30);
    HaloTrees both = onePicture(0, 10, 30, 1, 20, 30, 2, 30, 30);
    due("d 0, w 0: to the left", left.within(0, 20, 30, 0, 3), 2);
    due("d 0, w 0: to both", both.within(0, 20, 30, 0, 3), 3);
    due("d -1, w 0: to the left", left.within(0, 19, 30, 0, 3), 2);
    due("d -1, w 0: not to the right", both.within(0, 19, 30, 0, 3), 2);
    due("d -1, w 1: to both", both.within(0, 19, 30, 1, 3), 3);
    due("d 1, w 0: not to the left", left.within(0, 21, 30, 0, 3), 1);
    due("d 1, w 0: to the right", both.within(0, 21, 30, 0, 3), 2);
    due("d 1, w 1: to both", both.within(0, 21, 30, 1, 3), 3);
    due("d -5, w 24", both.within(0, 15, 30, 24, 3), 2);
    due("d -5, w 25", both.within(0, 15, 30, 25, 3), 3);
    due("d 5, w 24", left.within(0, 25, 30, 24, 3), 1);
    due("d 5, w 25", left.within(0, 25, 30, 25, 3), 2);
  }

  /** 2 at the top; to its left 1, with 0 to its left by Y; to its right 4, with 3 to its left. */
  private static void lookedAtByY() {
    HaloTrees t = onePicture(0, 1, 10, 1, 2, 20, 2, 30, 0, 3, 40, 5, 4, 41, 50);
    due("d 0, w 0", t.within(0, 0, 20, 0, 3), 3);
    due("d -1, w 0", t.within(0, 0, 19, 0, 3), 3);
    due("d 1, w 0: not to the left", t.within(0, 0, 21, 0, 3), 2);
    due("d 1, w 1", t.within(0, 0, 21, 1, 3), 3);
    due("d 5, w 24", t.within(0, 0, 25, 24, 3), 2);
    due("d 5, w 25", t.within(0, 0, 25, 25, 3), 3);
    due("from the right", t.within(0, 63, 50, 0, 3), 3);
    due("from the right, d 1", t.within(0, 63, 51, 0, 3), 2);
  }

  private static void lookedAtDeeper() {
    HaloTrees t = fourDeep();
    due("depth 2 by X: d 0, w 0", t.within(0, 3, 0, 0, 3), 4);
    due("depth 2 by X: d 1, w 0", t.within(0, 4, 0, 0, 3), 3);
    due("depth 2 by X: d 1, w 1", t.within(0, 4, 0, 1, 3), 4);
    due("each knot that one comes to", t.within(0, 30, 30, 9999, 3), 8);
    due("none in it", withPictures(1).within(0, 30, 30, 9999, 3), 0);
    due("one in it, far away", onePicture(0, 0, 0).within(0, 63, 63, 0, 3), 1);
  }

  private static void nearestOfLikeOnes() {
    HaloTrees t = onePicture(5, 10, 10, 3, 14, 10, 7, 12, 12);
    due("5, 3 and 7, each by 4", t.nearest(0, 12, 10), 3);
    due("one nearer to 5", t.nearest(0, 11, 10), 5);
    t.put(0, 23, 10, 10);
    due("5 and 23 at one place", t.nearest(0, 10, 10), 5);
    t.put(0, 0, 10, 10);
    due("0 too", t.nearest(0, 10, 10), 0);
  }

  // ---- Terms, 3

  private static void stepsAreFewest() {
    // A ring of 0, 1, 2, 3, with 4 hanging on 3.
    HaloTrees t = onePicture(0, 10, 10, 1, 18, 10, 2, 18, 18, 3, 10, 18, 4, 10, 26, 5, 50, 50);
    due("links", t.ofPicture(0, 2), 5);
    due("beside it, not round the ring", t.steps(0, 0, 1), 1);
    due("across the ring", t.steps(0, 0, 2), 2);
    due("to the one that hangs on it", t.steps(0, 1, 4), 3);
    due("and back", t.steps(0, 4, 1), 3);
    due("by the shorter side", t.steps(0, 0, 4), 2);
    due("another clump", t.steps(0, 0, 5), NONE);
    due("the same", t.steps(0, 5, 5), 0);
    HaloTrees full = fullPicture();
    full.bound(0, 2);
    due("the longest row", full.steps(0, 0, 23), 23);
    full.bound(0, 1);
    due("all alone", full.steps(0, 0, 1), NONE);
  }

  private static void holdsOfThoseLeft() {
    HaloTrees t = onePicture(0, 0, 0, 1, 8, 0, 2, 16, 0, 10, 40, 40, 11, 40, 41, 20, 63, 63);
    dueEach("the row of three", g -> t.grain(0, g, 5), 0, 1, 0, 0);
    due("one of a pair: one is left", t.grain(0, 10, 5), 0);
    due("the other", t.grain(0, 11, 5), 0);
    due("one alone: none is left", t.grain(0, 20, 5), 0);
    t.put(0, 3, 8, 8);
    due("in the middle of three", t.grain(0, 1, 5), 1);
    t.put(0, 4, 8, 4);
    due("one between two that are linked", t.grain(0, 4, 5), 0);
    due("not in it", t.grain(0, 23, 5), 0);
    HaloTrees twins = onePicture(0, 0, 0, 1, 8, 0, 2, 16, 0, 3, 8, 0);
    due("two at one place hold it, each alone does not", twins.grain(0, 1, 5), 0);
    due("the other", twins.grain(0, 3, 5), 0);
  }

  private static void byAnotherLength() {
    HaloTrees corners = onePicture(7, 0, 0, 8, 63, 63, 9, 0, 0);
    due("by 0: those at one place", corners.clumps(0, 0), 2);
    due("by 89: 7921, they are 7938 apart", corners.clumps(0, 89), 2);
    due("by 90", corners.clumps(0, 90), 1);
    due("L stays", corners.told(1), 8);
    due("the clumps stay", corners.ofPicture(0, 3), 2);
    HaloTrees t = onePicture(0, 10, 10, 1, 13, 14);
    due("by 4", t.clumps(0, 4), 2);
    due("by 5", t.clumps(0, 5), 1);
    due("none in it", withPictures(1).clumps(0, 90), 0);
    due("24 alone", fullPicture().clumps(0, 1), 24);
  }

  private static void joinOf0To90() {
    HaloTrees t = onePicture(7, 0, 0, 8, 63, 63, 9, 0, 0);
    due("at one place", t.join(0, 7, 9), 0);
    due("corner to corner", t.join(0, 7, 8), 90);
    due("the other way", t.join(0, 8, 7), 90);
    t.put(0, 8, 63, 62);
    // 3969 and 3844 are 7813, between 88 and 89 times itself.
    due("by one less", t.join(0, 7, 8), 89);
    t.put(0, 8, 0, 1);
    due("beside it", t.join(0, 7, 8), 1);
    t.put(0, 8, 1, 1);
    due("way 2: more than 1 times 1", t.join(0, 7, 8), 2);
    t.put(0, 8, 24, 32);
    due("way 1600", t.join(0, 7, 8), 40);
    t.put(0, 8, 40, 1);
    due("way 1601", t.join(0, 7, 8), 41);
    t.put(0, 10, 20, 0);
    // From 0, 0 to 20, 0 and on to 40, 1: 400 and 401.
    due("by another one", t.join(0, 7, 8), 21);
    due("L has no part in it", t.told(1), 8);
  }

  private static void grewWithoutMain() {
    HaloTrees t = withPictures(2);
    layAt(t, 0, 10, 10, 0, 1, 2, 3);
    layAt(t, 1, 10, 10, 0, 1);
    layAt(t, 1, 50, 50, 8, 9, 10);
    t.weigh(9, 5);
    due("in picture 0: all its own", t.halo(0, 0, 6), 4);
    due("one that comes from nowhere: all its own", t.halo(1, 0, 6), 7);
    due("with one: it shrank", t.halo(1, 1, 6), -2);
    layAt(t, 1, 10, 10, 15, 16);
    due("with one: as heavy as it", t.halo(1, 1, 6), 0);
    layAt(t, 1, 10, 10, 17);
    due("with one: it grew", t.halo(1, 1, 6), 1);
  }

  private static void strayedIfNone() {
    HaloTrees t = withPictures(2);
    layAt(t, 0, 10, 10, 0, 1, 2, 3, 4);
    t.weigh(3, 5);
    layAt(t, 1, 0, 0, 0);
    layAt(t, 1, 20, 20, 1);
    layAt(t, 1, 40, 40, 3);
    t.bound(1, 6);
    due("it goes on nowhere", t.halo(0, 0, 2), NONE);
    due("all that are there", t.halo(0, 0, 7), 7);
    t.bound(1, 2);
    due("it goes on in that of grain 3", t.halo(0, 0, 2), 0);
    due("those that are there, but not in it", t.halo(0, 0, 7), 2);
    layAt(t, 1, 40, 40, 0, 1);
    due("none of those that are there", t.halo(0, 0, 7), 0);
    t.lose(1, 0);
    t.lose(1, 1);
    t.lose(1, 3);
    due("none is there", t.halo(0, 0, 7), 0);
    t.drop();
    due("no next picture", t.halo(0, 0, 7), 0);
  }

  private static void lotsWithoutPictureAhead() {
    // Seed 4 draws 67228, 1129900996 (both left over 0 by 4), 48149351 (3), 1792290985 (41 by 64).
    HaloTrees t = new HaloTrees();
    t.drift(4);
    due("0: grain 0 is not in it", t.grain(0, 0, 0), NONE);
    due("0: grain 1 is not in it", t.grain(0, 1, 0), NONE);
    due("else: X of grain 2", t.grain(0, 2, 0), 41);
    // A picture that was dropped is not ahead.
    HaloTrees dropped = fullPicture();
    dropped.drop();
    dropped.drift(4);
    due("behind a dropped one: grain 0", dropped.grain(0, 0, 0), NONE);
    due("behind a dropped one: X of grain 2", dropped.grain(0, 2, 0), 41);
  }

  private static void lotsOfSixteen() {
    // Seed 16 draws 268912 (left over 0 by 16), 224636690 (18 by 64), 192597404 (28 by 64).
    HaloTrees out = fullPicture();
    out.drift(16);
    due("0: it was in it, and is not", out.grain(1, 0, 0), NONE);
    HaloTrees in = withPictures(1);
    in.drift(16);
    due("0: it was not in it, and is: X", in.grain(1, 0, 0), 18);
    due("0: it was not in it, and is: Y", in.grain(1, 0, 1), 28);
    // Seed 36 draws 605052 (left over 12 by 16, 0 by 4), 1579174376 and 433344159 (both 3 by 7).
    HaloTrees as = onePicture(0, 33, 44);
    as.drift(36);
    due("else: as it was, by 3 less 3: X", as.grain(1, 0, 0), 33);
    due("else: as it was, by 3 less 3: Y", as.grain(1, 0, 1), 44);
    HaloTrees not = withPictures(1);
    not.drift(36);
    due("else: as it was, not in it", not.grain(1, 0, 0), NONE);
    // Ahead is the last picture, not the first.
    HaloTrees third = onePicture(0, 33, 44);
    third.picture();
    third.put(1, 0, 5, 6);
    third.drift(36);
    due("that of the picture ahead: X", third.grain(2, 0, 0), 5);
    due("that of the picture ahead: Y", third.grain(2, 0, 1), 6);
  }

  private static void dueDrifted(int seed, int x, int y, int toX, int toY) {
    HaloTrees t = onePicture(0, x, y);
    t.drift(seed);
    String call = "drift(" + seed + ") from " + x + ", " + y;
    due(call + ": X", t.grain(1, 0, 0), toX);
    due(call + ": Y", t.grain(1, 0, 1), toY);
  }

  private static void lotsOnTheField() {
    // Seed 5 goes by -3, -3; seed 10 by 3, 3; seed 55 by -3, 3; seed 11 by 3, -3; seed 49 by -2, 2.
    for (int near = 0; near <= 3; near++) {
      dueDrifted(5, near, near, 0, 0);
      dueDrifted(10, 63 - near, 63 - near, 63, 63);
      dueDrifted(55, near, 63 - near, 0, 63);
      dueDrifted(11, 63 - near, near, 63, 0);
    }
    dueDrifted(5, 4, 5, 1, 2);
    dueDrifted(10, 59, 58, 62, 61);
    dueDrifted(55, 4, 59, 1, 62);
    dueDrifted(11, 59, 4, 62, 1);
    dueDrifted(49, 0, 63, 0, 63);
    dueDrifted(49, 3, 60, 1, 62);
  }

  private static void eightAtMost() {
    for (int done = 0; done <= 18; done++) {
      HaloTrees t = new HaloTrees();
      for (int i = 0; i < done; i++) t.weigh(0, 1 + i % 9);
      int kept = Math.min(done, 8);
      due(done + " done: can be undone", t.told(7), kept);
      for (int left = kept - 1; left >= 0; left--) due(done + " done: undo()", t.undo(), left);
      due(done + " done: one more undo()", t.undo(), NOT);
      // As heavy as the last that was done and is not undone left it.
      int was = done > 8 ? 1 + (done - 9) % 9 : 1;
      due(done + " done: what is left", t.weigh(0, 1), was);
    }
  }

  private static void undoneByTurns() {
    HaloTrees t = withPictures(1);
    for (int x = 0; x < 8; x++) t.put(0, 0, x, 0);
    for (int i = 0; i < 3; i++) t.undo();
    due("three undone", t.grain(0, 0, 0), 4);
    due("five more can be", t.told(7), 5);
    for (int x = 20; x < 24; x++) t.put(0, 0, x, 0);
    due("four done: eight", t.told(7), 8);
    for (int i = 0; i < 4; i++) t.undo();
    due("what had been so", t.grain(0, 0, 0), 4);
    for (int i = 0; i < 4; i++) t.undo();
    due("as far as it goes", t.grain(0, 0, 0), 0);
    due("no farther", t.undo(), NOT);
  }

  /** Each of the seven, undone, leaves what was so ahead of it. */
  private static void eachIsUndone() {
    HaloTrees t = withPictures(2);
    t.put(1, 3, 30, 31);
    t.picture();
    due("picture()", t.undo(), 3);
    due("pictures", t.told(0), 2);
    t.put(1, 3, 40, 41);
    due("put()", t.undo(), 3);
    due("X", t.grain(1, 3, 0), 30);
    t.lose(1, 3);
    due("lose()", t.undo(), 3);
    due("Y", t.grain(1, 3, 1), 31);
    t.weigh(3, 9);
    due("weigh()", t.undo(), 3);
    due("weight", t.grain(1, 3, 7), 1);
    t.bound(0, 40);
    due("bound(0)", t.undo(), 3);
    due("L", t.told(1), 8);
    t.bound(1, 99);
    due("bound(1)", t.undo(), 3);
    due("M", t.told(2), 2);
    t.drift(999);
    due("drift()", t.undo(), 3);
    due("pictures", t.told(0), 2);
    t.drop();
    due("drop()", t.undo(), 3);
    due("the grain of what was dropped", t.grain(1, 3, 0), 30);
    t.drop();
    t.picture();
    t.undo();
    t.undo();
    due("drop() under another picture()", t.grain(1, 3, 0), 30);
    HaloTrees six = withPictures(6);
    layEverywhere(six, 7);
    for (int p = 0; p < 6; p++) {
      for (int g : new int[] {0, 11, 23}) {
        six.put(p, g, 63, 63);
        six.undo();
        six.lose(p, g);
        six.undo();
      }
    }
    dueEverywhere(six, 7);
    for (int g = 0; g < 24; g++) {
      six.weigh(g, 9);
      six.undo();
      due("weight of " + g, six.grain(0, g, 7), 1);
    }
  }

  private static void imagesKeepAll() {
    HaloTrees t = withPictures(2);
    layAt(t, 0, 1, 2, 0);
    layAt(t, 1, 3, 4, 23);
    t.weigh(0, 9);
    t.bound(0, 40);
    t.bound(1, 99);
    t.keep(0);
    t.drop();
    t.drop();
    t.weigh(0, 2);
    t.bound(0, 0);
    t.bound(1, 1);
    t.keep(1);
    due("image 0", t.goBack(0), 2);
    due("L", t.told(1), 40);
    due("M", t.told(2), 99);
    due("weight", t.grain(0, 0, 7), 9);
    due("X", t.grain(0, 0, 0), 1);
    due("Y", t.grain(1, 23, 1), 4);
    due("image 1", t.goBack(1), 0);
    due("L", t.told(1), 0);
    due("M", t.told(2), 1);
    due("weight", t.weigh(0, 3), 2);
    HaloTrees six = withPictures(6);
    layEverywhere(six, 7);
    for (int g = 0; g < 24; g++) six.weigh(g, 7);
    six.keep(1);
    layEverywhere(six, 2);
    for (int g = 0; g < 24; g++) six.weigh(g, 2);
    six.goBack(1);
    dueEverywhere(six, 7);
    for (int g = 0; g < 24; g++) due("weight of " + g, six.grain(0, g, 7), 7);
  }

  private static void layEverywhere(HaloTrees t, int more) {
    for (int p = 0; p < 6; p++) layAt(t, p, p + more, p + 2 * more, 0, 11, 23);
  }

  private static void dueEverywhere(HaloTrees t, int more) {
    for (int p = 0; p < 6; p++) {
      for (int g : new int[] {0, 11, 23}) {
        due("X of " + g + " in " + p, t.grain(p, g, 0), p + more);
        due("Y of " + g + " in " + p, t.grain(p, g, 1), p + 2 * more);
      }
    }
  }

  // ---- Promises

  private static void newObject() {
    HaloTrees t = new HaloTrees();
    dueEach("told", t::told, 0, 8, 2, 0, 0, 0, 0, 0);
    due("drop()", t.drop(), NOT);
    due("undo()", t.undo(), NOT);
    due("goBack(0)", t.goBack(0), NOT);
    due("goBack(1)", t.goBack(1), NOT);
    due("picture()", t.picture(), 0);
    due("none of another object's", new HaloTrees().told(0), 0);
  }

  private static void fullOfPictures() {
    HaloTrees t = new HaloTrees();
    for (int i = 0; i < 6; i++) due("picture()", t.picture(), i);
    due("a seventh", t.picture(), FULL);
    due("told(0)", t.told(0), 6);
    due("drop()", t.drop(), 5);
    due("a sixth again", t.picture(), 5);
    due("a seventh again", t.picture(), FULL);
    t.undo();
    due("behind undo()", t.picture(), 5);
    HaloTrees drifted = new HaloTrees();
    for (int i = 1; i < 6; i++) drifted.drift(i);
    due("behind five drift()", drifted.picture(), 5);
    due("a seventh", drifted.picture(), FULL);
  }

  private static void pictureWithoutGrains() {
    HaloTrees t = new HaloTrees();
    for (int p = 0; p < 6; p++) {
      t.picture();
      int picture = p;
      dueEach("ofPicture(" + p + ")", what -> t.ofPicture(picture, what), 0, 0, 0, 0, 0, 0, NONE, 0);
    }
    for (int g = 0; g < 24; g++) t.put(5, g, g, g);
    t.drop();
    t.picture();
    dueEach("where one was dropped", what -> t.ofPicture(5, what), 0, 0, 0, 0, 0, 0, NONE, 0);
  }

  private static void dropNone() {
    HaloTrees t = new HaloTrees();
    due("none", t.drop(), NOT);
    for (int p = 0; p < 6; p++) t.picture();
    for (int left = 5; left >= 0; left--) due("drop()", t.drop(), left);
    due("none left", t.drop(), NOT);
    due("told(0)", t.told(0), 0);
  }

  private static void putWasInIt() {
    HaloTrees t = withPictures(2);
    due("not", t.put(0, 4, 1, 1), 0);
    due("it was", t.put(0, 4, 1, 1), 1);
    due("in another picture it was not", t.put(1, 4, 1, 1), 0);
    due("another grain was not", t.put(0, 5, 1, 1), 0);
    t.lose(0, 4);
    due("lost: not", t.put(0, 4, 1, 1), 0);
    due("at the corner 0, 0: not", t.put(0, 6, 0, 0), 0);
    due("at the corner 0, 0: it was", t.put(0, 6, 0, 0), 1);
    for (int g = 0; g < 24; g++) t.put(1, g, 0, 0);
    due("a full picture", t.put(1, 23, 63, 63), 1);
    due("all are in it", t.ofPicture(1, 0), 24);
  }

  private static void loseWhatIsNot() {
    HaloTrees t = withPictures(2);
    due("never put", t.lose(0, 0), NOT);
    t.put(0, 0, 0, 0);
    due("in the other picture alone", t.lose(1, 0), NOT);
    due("the last that is in it", t.lose(0, 0), 0);
    due("lost already", t.lose(0, 0), NOT);
    for (int g = 0; g < 24; g++) t.put(1, g, 9, 9);
    for (int g = 23; g >= 0; g--) due("of a full picture, " + g, t.lose(1, g), g);
    due("empty", t.lose(1, 5), NOT);
  }

  private static void weighOutside() {
    HaloTrees t = new HaloTrees();
    due("without a picture", t.weigh(23, 9), 1);
    due("what it was", t.weigh(23, 1), 9);
    due("the same once more", t.weigh(23, 1), 1);
    due("10", t.weigh(23, 10), OUTSIDE);
    due("0", t.weigh(23, 0), OUTSIDE);
    due("24", t.weigh(24, 9), UNKNOWN);
    due("-1", t.weigh(-1, 9), UNKNOWN);
  }

  private static void boundByWhat() {
    HaloTrees t = new HaloTrees();
    dueBounds("bound(what, 5)", what -> t.bound(what, 5), 0, 1, OUTSIDE);
    due("L may be 0", t.bound(0, 0), 5);
    due("M may not", t.bound(1, 0), OUTSIDE);
    due("M may be 41", t.bound(1, 41), 5);
    due("L may not", t.bound(0, 41), OUTSIDE);
    due("M may be 99", t.bound(1, 99), 41);
    due("M may not be 100", t.bound(1, 100), OUTSIDE);
    due("L may be 40", t.bound(0, 40), 0);
    due("L", t.told(1), 40);
    due("M", t.told(2), 99);
  }

  private static void boundsOfSeed() {
    // Seed 1 draws 16807 (left over 3 by 4), 282475249 (49 by 64), 1622650073 (25 by 64).
    HaloTrees least = new HaloTrees();
    due("0", least.drift(0), OUTSIDE);
    least.drift(1);
    due("1: X of grain 0", least.grain(0, 0, 0), 49);
    due("1: Y of grain 0", least.grain(0, 0, 1), 25);
    // Seed 999999 draws twice what is left over 0 by 4, then 1216742139 (3), 1445843439 (47 by 64), 1513213468 (28).
    HaloTrees most = new HaloTrees();
    due("1000000", most.drift(1000000), OUTSIDE);
    most.drift(999999);
    due("999999: grain 1", most.grain(0, 1, 0), NONE);
    due("999999: X of grain 2", most.grain(0, 2, 0), 47);
    due("999999: Y of grain 2", most.grain(0, 2, 1), 28);
    HaloTrees t = new HaloTrees();
    dueBounds("drift(seed)", t::drift, 1, 999999, OUTSIDE);
    due("two were taken", t.told(0), 2);
  }

  private static void driftFull() {
    HaloTrees t = withPictures(5);
    due("a sixth is taken", t.drift(7) <= UNKNOWN ? 1 : 0, 0);
    due("a seventh", t.drift(7), FULL);
    due("OUTSIDE goes ahead of FULL", t.drift(0), OUTSIDE);
    due("OUTSIDE goes ahead of FULL", t.drift(1000000), OUTSIDE);
    due("told(0)", t.told(0), 6);
    t.drop();
    due("a sixth again", t.drift(7), t.ofPicture(5, 0));
    due("its number is 5", t.told(0), 6);
    HaloTrees full = withPictures(5);
    for (int g = 0; g < 24; g++) full.put(4, g, 30, 30);
    // Seed 7 leaves over 0 by 16 for no grain, seed 36 for grain 19 alone.
    due("a sixth, behind a full picture: all are in it", full.drift(7), 24);
    due("a sixth, behind a full picture: their set", full.ofPicture(5, 1), ALL_GRAINS);
    full.drop();
    due("a sixth, behind a full picture: all but one", full.drift(36), 23);
    due("a sixth, behind a full picture: all but 19", full.ofPicture(5, 1), ALL_GRAINS - 524288);
  }

  private static void undoNone() {
    HaloTrees t = new HaloTrees();
    due("at first", t.undo(), NOT);
    t.picture();
    due("one", t.undo(), 0);
    due("none more", t.undo(), NOT);
    t.drop();
    due("behind one that was refused", t.undo(), NOT);
    t.picture();
    t.keep(0);
    due("behind keep", t.undo(), NOT);
    t.picture();
    t.goBack(0);
    due("behind goBack", t.undo(), NOT);
    due("the picture stays", t.told(0), 1);
    t.weigh(0, 1);
    due("one that left all as it was", t.undo(), 0);
  }

  private static void toldBounds() {
    HaloTrees t = new HaloTrees();
    dueBounds("told(what), new", t::told, 0, 7, OUTSIDE);
    t.picture();
    dueEach("one picture without grains", t::told, 1, 8, 2, 0, 0, 0, 0, 1);
    for (int i = 0; i < 5; i++) t.picture();
    dueEach("six pictures without grains", t::told, 6, 8, 2, 0, 0, 0, 0, 6);
    dueBounds("told(what), six pictures", t::told, 0, 7, OUTSIDE);
    for (int p = 0; p < 6; p++) for (int g = 0; g < 24; g++) t.put(p, g, 2 * g, 2 * p);
    t.bound(0, 1);
    t.bound(1, 1);
    dueEach("each grain a halo in each of six", t::told, 6, 1, 1, 144, 0, 0, 6, 8);
  }

  private static void toldButTheLast() {
    HaloTrees t = withPictures(1);
    layAt(t, 0, 10, 10, 0, 1);
    due("one picture: none goes on nowhere", t.told(4), 0);
    t.picture();
    due("a next one without grains: it does", t.told(4), 1);
    layAt(t, 1, 10, 10, 5, 6);
    due("the last picture's does not count", t.told(4), 1);
    t.picture();
    due("it does, when another comes", t.told(4), 2);
    t.drop();
    layAt(t, 1, 10, 10, 0);
    due("it goes on", t.told(4), 0);
  }

  private static void toldButPicture0() {
    HaloTrees t = withPictures(1);
    layAt(t, 0, 10, 10, 0, 1);
    due("one picture: the longest branch", t.told(6), 1);
    due("one picture: none comes from nowhere", t.told(5), 0);
    t.picture();
    layAt(t, 1, 10, 10, 5, 6);
    due("picture 1's does", t.told(5), 1);
    t.picture();
    layAt(t, 2, 50, 50, 0, 1);
    due("picture 2's too", t.told(5), 2);
    layAt(t, 2, 50, 50, 5);
    due("it comes from picture 1", t.told(5), 1);
    due("the longest branch", t.told(6), 2);
  }

  private static void ofPictureBounds() {
    HaloTrees t = withPictures(1);
    dueBounds("ofPicture(0, what), empty", what -> t.ofPicture(0, what), 0, 7, OUTSIDE);
    layAt(t, 0, 7, 7, 13);
    t.weigh(13, 9);
    dueEach("one grain", what -> t.ofPicture(0, what), 1, 8192, 0, 1, 1, 1, 13, 9);
    for (int g = 0; g < 24; g++) {
      t.put(0, g, 7, 7);
      t.weigh(g, 9);
    }
    dueEach("24 at one place", what -> t.ofPicture(0, what), 24, ALL_GRAINS, 276, 1, 1, 5, 12, 216);
    dueBounds("ofPicture(0, what), full", what -> t.ofPicture(0, what), 0, 7, OUTSIDE);
  }

  private static void grainBounds() {
    HaloTrees t = onePicture(2, 0, 63);
    dueBounds("grain(0, 2, what)", what -> t.grain(0, 2, what), 0, 7, OUTSIDE);
    dueBounds("grain(0, 3, what), not in it", what -> t.grain(0, 3, what), 0, 7, OUTSIDE);
    dueEach("grain(0, 2)", what -> t.grain(0, 2, what), 0, 63, 4, NONE, 0, 0, 0, 1);
    dueEach("grain(0, 3)", what -> t.grain(0, 3, what), NONE, NONE, 0, NONE, 0, 0, NONE, 1);
    t.weigh(3, 9);
    due("weight of one that is not in it", t.grain(0, 3, 7), 9);
    HaloTrees full = fullPicture();
    full.bound(0, 40);
    due("linked to as many as lie within 40", full.grain(0, 0, 4), 20);
    layAt(full, 0, 5, 5, 0, 1, 2, 3, 4, 5, 6, 7, 8, 9, 10, 11, 12, 13, 14, 15, 16, 17, 18, 19, 20, 21, 22, 23);
    due("linked to all others", full.grain(0, 23, 4), 23);
  }

  private static void haloBounds() {
    HaloTrees t = withPictures(1);
    due("none", t.halo(0, 0, 0), UNKNOWN);
    layAt(t, 0, 10, 10, 0, 1);
    layAt(t, 0, 30, 30, 2, 3);
    layAt(t, 0, 50, 50, 4);
    dueBounds("halo(0, halo, 0)", h -> t.halo(0, h, 0), 0, 1, UNKNOWN);
    dueBounds("from(0, halo)", h -> t.from(0, h), 0, 1, UNKNOWN);
    dueBounds("branch(0, halo, 0)", h -> t.branch(0, h, 0), 0, 1, UNKNOWN);
    dueBounds("halo(0, 1, what)", what -> t.halo(0, 1, what), 0, 7, OUTSIDE);
    t.bound(1, 3);
    due("none of weight 3", t.halo(0, 0, 0), UNKNOWN);
    HaloTrees most = fullPicture();
    most.bound(0, 1);
    most.bound(1, 1);
    dueBounds("halo(0, halo, 0), each grain one", h -> most.halo(0, h, 0), 0, 23, UNKNOWN);
    due("the last of 24", most.halo(0, 23, 0), 8388608);
  }

  private static void haloWithoutAny() {
    HaloTrees t = withPictures(3);
    layAt(t, 1, 10, 10, 0, 1);
    dueEach("none ahead, none behind", what -> t.halo(1, 0, what), 3, 2, NONE, 0, NONE, 1, 2, 0);
    due("from", t.from(1, 0), 0);
    dueEach("its branch", k -> t.branch(1, 0, k), 0, NONE);
  }

  private static void fromAll() {
    HaloTrees t = withPictures(2);
    for (int g = 0; g < 24; g++) {
      t.put(0, g, 2 * g, 0);
      t.put(1, g, 30, 30);
    }
    t.bound(0, 1);
    t.bound(1, 1);
    due("all 24 go on in one", t.from(1, 0), ALL_GRAINS);
    due("how many", t.halo(1, 0, 3), 24);
    due("the main of like ones", t.halo(1, 0, 4), 0);
    due("it grew by", t.halo(1, 0, 6), 23);
    due("none in picture 0", t.from(0, 23), 0);
  }

  private static void branchBelow0() {
    HaloTrees t = withPictures(2);
    layAt(t, 0, 10, 10, 0, 1);
    layAt(t, 1, 10, 10, 0, 1);
    due("-1", t.branch(1, 0, -1), OUTSIDE);
    due("the least", t.branch(1, 0, Integer.MIN_VALUE), OUTSIDE);
    due("0 itself", t.branch(1, 0, 0), 0);
    due("1, the last", t.branch(1, 0, 1), 0);
    due("2, not so many", t.branch(1, 0, 2), NONE);
    due("the greatest", t.branch(1, 0, Integer.MAX_VALUE), NONE);
    due("of one alone, 1", t.branch(0, 0, 1), NONE);
    due("no such halo, -1", t.branch(1, 1, -1), UNKNOWN);
  }

  private static void commonOfTheNext() {
    HaloTrees t = withPictures(2);
    layAt(t, 0, 10, 10, 0, 1, 2);
    layAt(t, 1, 10, 10, 1, 2, 3, 4);
    layAt(t, 1, 50, 50, 8, 9);
    t.weigh(2, 9);
    dueBounds("common(0, halo, 0)", h -> t.common(0, h, 0), 0, 0, UNKNOWN);
    dueBounds("common(0, 0, next)", h -> t.common(0, 0, h), 0, 1, UNKNOWN);
    due("both have", t.common(0, 0, 0), 10);
    due("none", t.common(0, 0, 1), 0);
    due("no next picture", t.common(1, 0, 0), UNKNOWN);
    t.picture();
    due("a next picture without halos", t.common(1, 0, 0), UNKNOWN);
  }

  private static void withinBounds() {
    HaloTrees t = onePicture(0, 0, 0, 1, 63, 63);
    dueBounds("within(0, x, 0, 0, 0)", x -> t.within(0, x, 0, 0, 0), 0, 63, OUTSIDE);
    dueBounds("within(0, 0, y, 0, 0)", y -> t.within(0, 0, y, 0, 0), 0, 63, OUTSIDE);
    dueBounds("within(0, 0, 0, w, 0)", w -> t.within(0, 0, 0, w, 0), 0, 9999, OUTSIDE);
    dueBounds("within(0, 0, 0, 0, what)", what -> t.within(0, 0, 0, 0, what), 0, 3, OUTSIDE);
    dueEach("w 9999", what -> t.within(0, 0, 0, 9999, what), 2, 3, 2, 2);
    t.picture();
    dueEach("without grains", what -> t.within(1, 0, 0, 9999, what), 0, 0, 0, 0);
    dueBounds("without grains, within(1, 0, 0, w, 3)", w -> t.within(1, 0, 0, w, 3), 0, 9999, OUTSIDE);
    HaloTrees full = fullPicture();
    for (int g = 0; g < 24; g++) full.weigh(g, 9);
    dueEach("all 24", what -> full.within(0, 63, 63, 9999, what), 24, ALL_GRAINS, 216, 24);
  }

  private static void nearestBounds() {
    HaloTrees t = withPictures(1);
    due("no grains", t.nearest(0, 0, 0), NONE);
    dueBounds("no grains, nearest(0, x, 0)", x -> t.nearest(0, x, 0), 0, 63, OUTSIDE);
    t.put(0, 23, 63, 63);
    due("one grain, from the farthest corner", t.nearest(0, 0, 0), 23);
    dueBounds("nearest(0, x, 0)", x -> t.nearest(0, x, 0), 0, 63, OUTSIDE);
    dueBounds("nearest(0, 0, y)", y -> t.nearest(0, 0, y), 0, 63, OUTSIDE);
    t.lose(0, 23);
    due("no grains any more", t.nearest(0, 63, 63), NONE);
  }

  private static void belowBounds() {
    HaloTrees t = onePicture(0, 10, 0, 1, 20, 0);
    dueBounds("below(0, 1, side)", side -> t.below(0, 1, side), 0, 1, OUTSIDE);
    dueBounds("below(0, 9, side), not in it", side -> t.below(0, 9, side), 0, 1, OUTSIDE);
    due("to the left", t.below(0, 1, 0), 0);
    due("to the right none", t.below(0, 1, 1), NONE);
    due("below a leaf, left", t.below(0, 0, 0), NONE);
    due("below a leaf, right", t.below(0, 0, 1), NONE);
    due("not in it, left", t.below(0, 9, 0), NONE);
    due("not in it, right", t.below(0, 9, 1), NONE);
  }

  private static void stepsOfOneTwice() {
    HaloTrees t = onePicture(0, 10, 10, 1, 50, 50);
    due("the same", t.steps(0, 0, 0), 0);
    due("the same, not in it", t.steps(0, 7, 7), NONE);
    due("the other is not in it", t.steps(0, 0, 7), NONE);
    due("the first is not in it", t.steps(0, 7, 0), NONE);
    due("not of one clump", t.steps(0, 0, 1), NONE);
    due("24 twice", t.steps(0, 24, 24), UNKNOWN);
    due("no picture, one twice", t.steps(1, 0, 0), UNKNOWN);
  }

  private static void boundsOfAnotherLength() {
    HaloTrees t = onePicture(0, 0, 0, 1, 63, 63);
    dueBounds("clumps(0, length)", length -> t.clumps(0, length), 0, 90, OUTSIDE);
    due("beyond the bound of L", t.clumps(0, 41), 2);
    t.picture();
    dueBounds("clumps(1, length), empty", length -> t.clumps(1, length), 0, 90, OUTSIDE);
    due("empty", t.clumps(1, 0), 0);
  }

  private static void joinOfOneTwice() {
    HaloTrees t = onePicture(0, 0, 0, 23, 9, 0);
    due("one twice", t.join(0, 0, 0), UNKNOWN);
    due("the last one twice", t.join(0, 23, 23), UNKNOWN);
    due("one twice, not in it", t.join(0, 5, 5), UNKNOWN);
    due("the first is not in it", t.join(0, 5, 0), NONE);
    due("the second is not in it", t.join(0, 0, 5), NONE);
    due("both are not in it", t.join(0, 5, 6), NONE);
    due("both are", t.join(0, 0, 23), 9);
  }

  private static void boundsOfKeep() {
    for (int count = 0; count <= 6; count++) {
      HaloTrees t = withPictures(count);
      dueBounds("keep(i)", t::keep, 0, 1, UNKNOWN);
      due("how many pictures", t.keep(0), count);
      due("how many pictures", t.keep(1), count);
      due("nothing can be undone then", t.told(7), 0);
      due("nothing can be undone then", t.undo(), NOT);
    }
    HaloTrees again = withPictures(3);
    again.keep(1);
    again.drop();
    due("kept over what was kept", again.keep(1), 2);
    again.drop();
    due("the later one", again.goBack(1), 2);
  }

  private static void boundsOfGoBack() {
    HaloTrees t = withPictures(2);
    due("image 0 was not kept", t.goBack(0), NOT);
    due("image 1 was not kept", t.goBack(1), NOT);
    due("-1", t.goBack(-1), UNKNOWN);
    due("2", t.goBack(2), UNKNOWN);
    due("what is refused loses nothing", t.told(7), 2);
    t.keep(1);
    due("image 0 was not kept still", t.goBack(0), NOT);
    t.picture();
    due("image 1 was", t.goBack(1), 2);
    due("nothing can be undone then", t.told(7), 0);
    due("nothing can be undone then", t.undo(), NOT);
    t.keep(0);
    dueBounds("goBack(i), both kept", t::goBack, 0, 1, UNKNOWN);
    HaloTrees none = new HaloTrees();
    none.keep(0);
    none.picture();
    due("an image without pictures was kept", none.goBack(0), 0);
    due("no pictures", none.told(0), 0);
    none.picture();
    none.put(0, 0, 1, 1);
    none.keep(1);
    none.lose(0, 0);
    none.undo();
    none.drop();
    due("an image goes on behind undo()", none.goBack(1), 1);
    due("its grain", none.grain(0, 0, 0), 1);
    none.lose(0, 0);
    due("what is done behind goBack does not reach the image", none.goBack(1), 1);
    due("its grain", none.grain(0, 0, 0), 1);
  }

  private static void terms() {
    holds("What it is, \"at most 512 calls\"", HaloTreesBoundaries::calls512);
    holds("Terms, \"A SET is a whole number, bit k for GRAIN k\"", HaloTreesBoundaries::setsOfGrains);
    holds("Terms, \"NONE is -1\", \"-1000000001 and on\"", HaloTreesBoundaries::constants);
    holds("1, \"GRAINS 0 .. 23\"", HaloTreesBoundaries::boundsOfGrain);
    holds("1, \"WEIGHT 1 .. 9 each (1 at first)\"", HaloTreesBoundaries::boundsOfWeight);
    holds("1, \"PICTURES (6 at most\"", HaloTreesBoundaries::boundsOfPicture);
    holds("1, \"none at first\"", HaloTreesBoundaries::noPicturesAtFirst);
    holds("1, \"lies at X, Y (0 .. 63 each)\"", HaloTreesBoundaries::boundsOfPlace);
    holds("1, \"or is not in it\"", HaloTreesBoundaries::isNotInIt);
    holds("1, \"LENGTH L (0 .. 40; 8 at first)\"", HaloTreesBoundaries::boundsOfLength);
    holds("1, \"LEAST M (1 .. 99; 2 at first)\"", HaloTreesBoundaries::boundsOfLeast);
    holds("1, \"whose WAY is L times L or less\"", HaloTreesBoundaries::linkedByLengthOrLess);
    holds("1, \"one alone is one\"", HaloTreesBoundaries::oneAloneIsOne);
    holds("1, \"that come to one another by LINKS\"", HaloTreesBoundaries::clumpsByOthers);
    holds("1, \"CLUMPS of WEIGHTS M or more together\"", HaloTreesBoundaries::leastOrMore);
    holds("1, \"numbered from the heaviest on\"", HaloTreesBoundaries::numberedByWeight);
    holds("1, \"of like ones from that with the lesser least GRAIN\"", HaloTreesBoundaries::likeHalosByLeastGrain);
    holds("1, \"in which the WEIGHT of its own GRAINS is most\"", HaloTreesBoundaries::goesOnByWeight);
    holds("1, GOES ON, \"of like ones the least number\"", HaloTreesBoundaries::goesOnOfLikeOnes);
    holds("1, \"NONE: none has any of them, there is no next PICTURE\"", HaloTreesBoundaries::goesOnNowhere);
    holds("1, \"COMES FROM: the other way round\"", HaloTreesBoundaries::comesFrom);
    holds("1, \"MAIN: of these the heaviest\"", HaloTreesBoundaries::mainIsHeaviest);
    holds("1, MAIN, \"of like ones the least number; NONE\"", HaloTreesBoundaries::mainOfLikeOnes);
    holds("1, \"BRANCH of a HALO: itself, its MAIN\"", HaloTreesBoundaries::branchesOfSix);
    holds("2, \"the one ahead of which there are n / 2 is the KNOT\"", HaloTreesBoundaries::knotBehindHalf);
    holds("2, \"ordered by X, then Y, then number\"", HaloTreesBoundaries::orderAtTop);
    holds("2, \"by Y, then X, then number at odd depths\"", HaloTreesBoundaries::orderAtOddDepths);
    holds("2, \"each likewise, one deeper\"", HaloTreesBoundaries::orderAtDepthTwo);
    holds("2, \"GRAINS at most so far from it\"", HaloTreesBoundaries::withinAtMost);
    holds("2, \"d is 0 or less, or d times d is w or less\"", HaloTreesBoundaries::lookedAtByX);
    holds("2, \"at an odd one by Y\"", HaloTreesBoundaries::lookedAtByY);
    holds("2, \"from the top, each KNOT that one comes to\"", HaloTreesBoundaries::lookedAtDeeper);
    holds("2, NEAREST, \"of like ones the least\"", HaloTreesBoundaries::nearestOfLikeOnes);
    holds("3, \"the fewest LINKS one behind the other; NONE\"", HaloTreesBoundaries::stepsAreFewest);
    holds("3, \"more than one (of those that are left)\"", HaloTreesBoundaries::holdsOfThoseLeft);
    holds("3, \"how many CLUMPS there would be\"", HaloTreesBoundaries::byAnotherLength);
    holds("3, \"the least LENGTH (0 .. 90)\"", HaloTreesBoundaries::joinOf0To90);
    holds("3, \"all its own, without one\"", HaloTreesBoundaries::grewWithoutMain);
    holds("3, \"all that are there, if NONE\"", HaloTreesBoundaries::strayedIfNone);
    holds("3, \"X left over by 4: 0: it is not in it\"", HaloTreesBoundaries::lotsWithoutPictureAhead);
    holds("3, \"X left over by 16: 0: it is in it, if it was not\"", HaloTreesBoundaries::lotsOfSixteen);
    holds("3, \"0 at least, 63 at most\"", HaloTreesBoundaries::lotsOnTheField);
    holds("3, \"8 at most are kept, the oldest are lost\"", HaloTreesBoundaries::eightAtMost);
    holds("3, \"UNDONE: the latest\"", HaloTreesBoundaries::undoneByTurns);
    holds("3, \"the latest of picture(), put(), lose(), weigh(), bound(), drift(), drop()\"", HaloTreesBoundaries::eachIsUndone);
    holds("3, \"IMAGES 0, 1 keep all of section 1\"", HaloTreesBoundaries::imagesKeepAll);
  }

  private static void promises() {
    holds("Promise 1, \"No PICTURES\"", HaloTreesBoundaries::newObject);
    holds("Promise 2, \"FULL (6)\"", HaloTreesBoundaries::fullOfPictures);
    holds("Promise 2, \"without GRAINS\"", HaloTreesBoundaries::pictureWithoutGrains);
    holds("Promise 3, \"NOT: none\"", HaloTreesBoundaries::dropNone);
    holds("Promise 4, \"1 it was in it, 0 not\"", HaloTreesBoundaries::putWasInIt);
    holds("Promise 5, \"NOT: it is not\"", HaloTreesBoundaries::loseWhatIsNot);
    holds("Promise 6, \"UNKNOWN, OUTSIDE\"", HaloTreesBoundaries::weighOutside);
    holds("Promise 7, \"what = 0 L, 1 M\"", HaloTreesBoundaries::boundByWhat);
    holds("Promise 8, \"a SEED (1 .. 999999)\"", HaloTreesBoundaries::boundsOfSeed);
    holds("Promise 8, \"OUTSIDE, FULL (6)\"", HaloTreesBoundaries::driftFull);
    holds("Promise 9, \"NOT: none\"", HaloTreesBoundaries::undoNone);
    holds("Promise 10, what 0 .. 7, \"(how many HALOS; 0)\"", HaloTreesBoundaries::toldBounds);
    holds("Promise 10, \"in all PICTURES but the last\"", HaloTreesBoundaries::toldButTheLast);
    holds("Promise 10, \"in all but PICTURE 0\"", HaloTreesBoundaries::toldButPicture0);
    holds("Promise 11, what 0 .. 7", HaloTreesBoundaries::ofPictureBounds);
    holds("Promise 12, what 0 .. 7, \"NONE: it is not in it\"", HaloTreesBoundaries::grainBounds);
    holds("Promise 13, \"UNKNOWN, OUTSIDE\"", HaloTreesBoundaries::haloBounds);
    holds("Promise 13, \"GOES ON (NONE)\", \"MAIN (NONE)\"", HaloTreesBoundaries::haloWithoutAny);
    holds("Promise 14, \"a SET of HALOS\"", HaloTreesBoundaries::fromAll);
    holds("Promise 15, \"NONE: not so many. UNKNOWN, OUTSIDE: k below 0\"", HaloTreesBoundaries::branchBelow0);
    holds("Promise 16, \"one of the next PICTURE\"", HaloTreesBoundaries::commonOfTheNext);
    holds("Promise 17, \"w 0 .. 9999; x, y 0 .. 63\"", HaloTreesBoundaries::withinBounds);
    holds("Promise 18, \"NONE: no GRAINS\"", HaloTreesBoundaries::nearestBounds);
    holds("Promise 19, \"side 0 .. 1\", \"NONE: none, it is not in it\"", HaloTreesBoundaries::belowBounds);
    holds("Promise 20, \"0: the same\", \"but not for one twice\"", HaloTreesBoundaries::stepsOfOneTwice);
    holds("Promise 21, \"BY ANOTHER LENGTH (0 .. 90)\"", HaloTreesBoundaries::boundsOfAnotherLength);
    holds("Promise 22, \"NONE: one is not in it\", Terms, \"one twice, where two are asked\"", HaloTreesBoundaries::joinOfOneTwice);
    holds("Promise 23, \"nothing can be undone then\"", HaloTreesBoundaries::boundsOfKeep);
    holds("Promise 24, \"NOT: it was not kept\"", HaloTreesBoundaries::boundsOfGoBack);
  }

  public static void main(String[] args) {
    terms();
    promises();
    System.out.println(sentences + " sentences, " + answers + " answers, " + wrong + " not as due");
    if (wrong != 0) System.exit(1);
  }
}
