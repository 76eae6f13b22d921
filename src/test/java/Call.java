/** One call of the face with its arguments, so that it can be told as text and made on several objects. */
record Call(String name, int... args) {
  /** Told as "lead 0 3 1 9"; numbers may be min and max, and o53261 is to the base 8. */
  static Call of(String text) {
    String[] words = text.trim().split(" +");
    int[] args = new int[words.length - 1];
    for (int i = 0; i < args.length; i++) {
      args[i] = number(words[i + 1]);
    }
    return new Call(words[0], args);
  }

  private static int number(String word) {
    if (word.equals("min")) {
      return Integer.MIN_VALUE;
    }
    if (word.equals("max")) {
      return Integer.MAX_VALUE;
    }
    return word.startsWith("o") ? Integer.parseInt(word.substring(1), 8) : Integer.parseInt(word);
  }

  long on(RoomMapper x) {
    int[] a = args;
    switch (name) {
      case "cell": return x.cell(a[0], a[1] != 0);
      case "lead": return x.lead(a[0], a[1], a[2], a[3]);
      case "start": return x.start(a[0]);
      case "act": return x.act(a[0]);
      case "seen": return x.seen(a[0]);
      case "walk": return x.walk(a[0], a[1]);
      case "sheets": return x.sheets();
      case "sheet": return x.sheet(a[0], a[1]);
      case "leads": return x.leads(a[0], a[1], a[2]);
      case "sign": return x.sign(a[0], a[1]);
      case "known": return x.known();
      case "one": return x.one(a[0], a[1]);
      case "part": return x.part(a[0], a[1]);
      case "next": return x.next(a[0]);
      case "go": return x.go(a[0], a[1]);
      case "way": return x.way(a[0]);
      case "hand": return x.hand(a[0], a[1], a[2]);
      case "fits": return x.fits();
      case "isTrue": return x.isTrue(a[0]);
      case "count": return x.count(a[0]);
      case "reached": return x.reached();
      case "keep": return x.keep(a[0], a[1], a[2]);
      case "make": return x.make(a[0], a[1], a[2]);
      case "element": return Check.element(x, a[0], a[1]);
      case "copy": return x.copy(a[0], a[1], a[2], a[3], a[4]);
      case "weight": return x.weight(a[0]);
      case "toss": return x.toss(a[0]);
      default: throw new IllegalArgumentException("the face has no " + name);
    }
  }

  @Override
  public String toString() {
    StringBuilder b = new StringBuilder(name).append('(');
    for (int i = 0; i < args.length; i++) {
      b.append(i == 0 ? "" : ", ").append(args[i]);
    }
    return b.append(')').toString();
  }
}
