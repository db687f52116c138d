/** The bounds of the document's part IV and of promises 31 to 38: what is TOLD, what may be true, SLOTS, counts. */
public final class SecretWellsToldBounds {
    public static void main(String[] args) {
        nothingHappens();
        twentyAtMost();
        numbers();
        asTheText();
        justTheSet();
        onlyOne();
        forget();
        knownByK();
        trueOnes();
        leastFirst();
        sure();
        sureOfNone();
        next();
        nextOfNone();
        hold();
        holdsAllThatGoesOn();
        restore();
        restoreNothing();
        undoneBehindRestore();
        counts();
        countsOfSlots();
        farDays();
        Due.end();
    }

    /** Eight SECRETS that make 10, 20, 40 .. deeper if they are true, so that each set is told by its depth. */
    private static final String POWERS = "well w 5 0; well v 900 0; man a w 0; man b w 0; secret k 1 a; secret l 2 a; secret m 4 b; secret n 8 b;"
        + "secret o 16 a; secret p 32 b; secret q 64 a; secret r 99 b;";

    private static void nothingHappens() {
        Due.sentence("how many; which, the least first (bits); SURE: SECRETS that are true in all of them, or false in all.");
        for (Due.Made made : new Due.Made[] {Due::rich, Due::full}) {
            Due.untouched("truth", made, x -> x.truth(2, -1) + x.truth(1, 0));
            Due.untouched("sure", made, x -> x.sure(2, true) + x.sure(1, false));
            Due.untouched("next", made, x -> x.next(2, 0) + x.next(0, 1));
            Due.untouched("count", made, x -> x.count(0) + x.count(13));
            Due.untouched("place", made, SecretWells::place);
            Due.untouched("what there is", made, x -> x.well(0, 5) + x.man(0, 4) + x.secret(0, 3) + x.tells(0, 0));
        }
    }

    // ---- TOLD

    private static SecretWells told(int n) {
        SecretWells x = Due.of(Due.VILLAGE);
        for (int i = 0; i < n; i++) {
            Due.due("note " + i, x.note(0, i % 16, 20 + i), i);
        }
        return x;
    }

    private static void twentyAtMost() {
        Due.sentence("20 at most, numbered from 0 on;");
        for (int n : new int[] {0, 1, 19, 20}) {
            Due.due("TOLD ones", told(n).count(10), n);
        }
        Due.due("the 20th", told(19).note(0, 0, 20), 19);
        Due.sentence("NONE, and nothing happens: 20 are there, no such ones (deep 0 .. 9999; a set of SECRETS, none too).");
        Due.still("a 21st", () -> told(20), x -> x.note(0, 0, 20), -1);
        SecretWells x = told(20);
        long truths = x.truth(20, -1);
        x.note(0, 0, 21);
        x.note(0, 1, 21);
        Due.due("TRUE ones behind a refused one", x.truth(20, -1), truths);
        Due.due("KNOWN by 21", x.truth(21, -1), -1);
        Due.due("20 were there", x.forget(), 20);
        Due.due("numbered from 0 on again", x.note(0, 0, 20), 0);
    }

    private static void numbers() {
        Due.sentence("NONE, and nothing happens: 20 are there, no such ones (deep 0 .. 9999; a set of SECRETS, none too).");
        for (int deep : new int[] {-1, 10000, Due.MIN, Due.MAX}) {
            Due.still("deep " + deep, Due::rich, x -> x.note(0, 0, deep), -1);
        }
        for (int set : new int[] {-1, 16, 17, 32, 255, Due.MIN, Due.MAX}) {
            Due.still("set " + set, Due::rich, x -> x.note(0, set, 20), -1);
        }
        for (int well : new int[] {-1, 2, 4, Due.MIN, Due.MAX}) {
            Due.still("well " + well, Due::rich, x -> x.note(well, 0, 20), -1);
        }
        SecretWells x = Due.of(Due.VILLAGE);
        Due.due("deep 0", x.note(0, 0, 0), 0);
        Due.due("deep 9999", x.note(1, 15, 9999), 1);
        x = Due.of("well w 0 0; man a w 0; secret s 1 a;");
        Due.due("no SECRET of the set, not DEEP at all", x.note(0, 0, 0), 0);
        Due.due("may be so", x.truth(1, -1), 2);
        x = Due.of("well w 999 0; man a w 0; man b w 0; secret k 99 a; secret l 99 a; secret m 99 a; secret n 99 a; secret o 99 a; secret p 99 a;"
            + "secret q 99 a; secret r 99 a;");
        Due.due("the deepest", x.note(0, 255, 999 + 8 * 990), 0);
        Due.due("all are true", x.truth(1, 0), 255);
        Due.due("just one way", x.truth(1, -1), 1);
        Due.due("one deeper", x.note(0, 255, 999 + 8 * 990 + 1), 1);
        Due.due("no way", x.truth(2, -1), 0);
    }

    private static void asTheText() {
        Due.sentence("TOLD: that a WELL would be so DEEP if just a set of SECRETS were whispered into it, all else as the text, day 0;");
        SecretWells x = Due.of(Due.VILLAGE);
        x.note(0, 3, 100);
        Due.due("old and two are true: 20 + 60 + 20", x.truth(1, 0), 3);
        x.whisper(0, 0, 0);
        x.whisper(0, 1, 1);
        x.tell(0, 1, 0);
        x.tell(0, 2, 0);
        Due.due("whispered, told to all: still", x.truth(1, 0), 3);
        x.days(100);
        Due.due("all dead", x.count(5), 0);
        Due.due("still", x.truth(1, 0), 3);
        Due.due("how many", x.truth(1, -1), 4);
        Due.due("note behind all that", x.note(1, 1, 70), 1);
        Due.due("how many", x.truth(2, -1), 4);
        x.hold(0);
        x.undo();
        x.restore(0);
        Due.due("behind restore()", x.truth(2, -1), 4);
    }

    private static void justTheSet() {
        Due.sentence("TOLD: that a WELL would be so DEEP if just a set of SECRETS were whispered into it, all else as the text, day 0;");
        SecretWells x = Due.of(Due.VILLAGE);
        x.whisper(0, 0, 0);
        x.note(0, 2, 40);
        Due.due("what is whispered now is not in it", x.truth(1, 0), 2);
        x.note(1, 2, 30);
        Due.due("another WELL", x.truth(2, -1), 8);
        x.note(1, 2, 31);
        Due.due("one deeper", x.truth(3, -1), 0);
        x.forget();
        x.note(0, 8, 20);
        Due.due("KNOWN by all: never deeper", x.truth(1, -1), 16);
        x.note(0, 8, 50);
        Due.due("not by what one alone would make it", x.truth(2, -1), 0);
        x = Due.of("well w 5 0; man a w 0; secret s 1;");
        x.note(0, 1, 5);
        Due.due("known by nobody: never deeper", x.truth(1, -1), 2);
        x = Due.of("well w 5 0; secret s 1;");
        x.note(0, 1, 5);
        Due.due("no MEN", x.truth(1, -1), 2);
        x = Due.of("well w 5 0; man a w 0; man b w 0; man c w 0; man d w 0; secret s 1 a b c; secret t 2 a b c;");
        x.note(0, 3, 8);
        Due.due("10 by 3 is 3", x.truth(1, 0), 1);
        x.forget();
        x.note(0, 3, 14);
        Due.due("3 and 6", x.truth(1, 0), 3);
    }

    private static void onlyOne() {
        Due.sentence("(by the only one alive it is)");
        SecretWells x = Due.of("well w 5 0; man a w 0; secret s 3 a;");
        x.note(0, 1, 35);
        Due.due("true", x.truth(1, 0), 1);
        Due.due("just so", x.truth(1, -1), 1);
        x.note(0, 1, 5);
        Due.due("never both", x.truth(2, -1), 0);
    }

    private static void forget() {
        Due.sentence("All that was TOLD is forgotten: how many there were.");
        for (int n : new int[] {0, 1, 19, 20}) {
            SecretWells x = told(n);
            Due.due("there were", x.forget(), n);
            Due.due("TOLD ones", x.count(10), 0);
            Due.due("KNOWN by 1", x.truth(1, -1), -1);
            Due.due("KNOWN by 0", x.truth(0, -1), 16);
            Due.due("there were", x.forget(), 0);
            Due.due("what there is", Due.probed(x), Due.probed(Due.of(Due.VILLAGE)));
        }
        SecretWells x = Due.rich();
        x.forget();
        Due.due("nothing else is", x.count(9), Due.rich().count(9));
        Due.due("nothing else is", x.count(11), 2);
        Due.due("the tape", x.count(8), 20);
    }

    // ---- what may be true

    private static void knownByK() {
        Due.sentence("KNOWN by k: the first k.");
        SecretWells x = Due.of(POWERS);
        int[] many = {256, 128, 64, 32, 16, 0};
        x.note(0, 1, 15);
        x.note(0, 2, 5);
        x.note(1, 4, 940);
        x.note(0, 8, 5);
        x.note(0, 0, 6);
        for (int k = 0; k <= 5; k++) {
            Due.due("KNOWN by " + k, x.truth(k, -1), many[k]);
        }
        for (int k : new int[] {-1, 6, 20, Due.MIN, Due.MAX}) {
            Due.due("truth(" + k + ")", x.truth(k, -1), -1);
            Due.due("truth(" + k + ")", x.truth(k, 0), -1);
            Due.due("sure(" + k + ")", x.sure(k, false), -1);
            Due.due("sure(" + k + ")", x.sure(k, true), -1);
            Due.due("next(" + k + ")", x.next(k, 0), -1);
        }
        x = told(20);
        Due.due("KNOWN by 20", x.sure(20, true) >= 0, true);
        Due.due("KNOWN by 21", x.sure(21, true), -1);
    }

    private static void trueOnes() {
        Due.sentence("TRUE ones: sets of SECRETS that may be true (all others FALSE, whatever the text says) so that all that is KNOWN is so");
        SecretWells x = Due.of(POWERS);
        for (int set : new int[] {0, 1, 2, 85, 127}) {
            x.forget();
            x.note(0, 127, 5 + 10 * set);
            Due.due("KNOWN of seven", x.truth(1, -1), 2);
            Due.due("the eighth is not true", x.truth(1, 0), set);
            Due.due("the eighth is true", x.truth(1, 1), set + 128);
            Due.due("not so many", x.truth(1, 2), -1);
        }
        x = Due.of(Due.VILLAGE);
        x.note(0, 4, 110);
        Due.due("what the text calls FALSE may be true", x.truth(1, 0), 4);
        x.forget();
        x.note(0, 1, 20);
        Due.due("what the text does not may be FALSE", x.sure(1, true), 1);
        Due.due("nothing KNOWN: all sets", x.truth(0, -1), 16);
    }

    private static void leastFirst() {
        Due.sentence("how many (i NONE), else the i-th; NONE: no such ones, not so many.");
        SecretWells x = Due.of(POWERS);
        for (int i : new int[] {0, 1, 2, 127, 128, 254, 255}) {
            Due.due("the " + i + "-th", x.truth(0, i), i);
        }
        for (int i : new int[] {-2, -3, 256, 257, 512, Due.MIN, Due.MAX}) {
            Due.due("the " + i + "-th", x.truth(0, i), -1);
        }
        x.note(0, 4, 45);
        int found = 0;
        for (int set = 0; set < 256; set++) {
            if ((set & 4) != 0) {
                Due.due("the " + found + "-th with m", x.truth(1, found), set);
                found++;
            }
        }
        Due.due("how many", x.truth(1, -1), found);
        Due.due("one beyond", x.truth(1, found), -1);
        x = new SecretWells();
        Due.due("no SECRETS: one set", x.truth(0, -1), 1);
        Due.due("that of none", x.truth(0, 0), 0);
        Due.due("one beyond", x.truth(0, 1), -1);
    }

    private static void sure() {
        Due.sentence("SURE: SECRETS that are true in all of them, or false in all.");
        SecretWells x = Due.of(POWERS);
        Due.due("true, of nothing KNOWN", x.sure(0, false), 0);
        Due.due("false, of nothing KNOWN", x.sure(0, true), 0);
        x.note(0, 3, 25);
        Due.due("l is true", x.sure(1, false), 2);
        Due.due("k is false", x.sure(1, true), 1);
        x.note(0, 255, 5 + 20 + 40 + 160 + 990);
        Due.due("true", x.sure(2, false), 2 + 4 + 16 + 128);
        Due.due("false", x.sure(2, true), 1 + 8 + 32 + 64);
        x.forget();
        x.note(0, 255, 5);
        Due.due("true", x.sure(1, false), 0);
        Due.due("all eight are false", x.sure(1, true), 255);
        x.forget();
        x.note(0, 255, 5 + 1270 + 990);
        Due.due("all eight are true", x.sure(1, false), 255);
        Due.due("false", x.sure(1, true), 0);
        x = Due.of("well w 0 0; man a w 0; man b w 0; secret s 1 a; secret t 1 a; secret u 2 a;");
        x.note(0, 7, 20);
        Due.due("s and t, or u: none is sure", x.sure(1, false), 0);
        Due.due("none is sure", x.sure(1, true), 0);
        Due.due("two ways", x.truth(1, -1), 2);
    }

    private static void sureOfNone() {
        Due.sentence("0 if there are no TRUE ones; NONE: no such k.");
        SecretWells x = Due.of(POWERS);
        x.note(0, 0, 6);
        Due.due("no TRUE ones", x.truth(1, -1), 0);
        Due.due("no first one", x.truth(1, 0), -1);
        Due.due("true", x.sure(1, false), 0);
        Due.due("false", x.sure(1, true), 0);
        Due.due("false, of no SECRETS", new SecretWells().sure(0, true), 0);
        Due.due("true, of no SECRETS", new SecretWells().sure(0, false), 0);
        Due.due("no such k", new SecretWells().sure(1, false), -1);
    }

    private static void next() {
        Due.sentence("NEXT: the SECRET that, whispered alone into WELL 0, tells most: by which the greater half of TRUE ones, "
            + "by whether it goes deeper, is smallest; of alike ones the first.");
        SecretWells x = Due.of(POWERS);
        Due.due("all alike: the first", x.next(0, 0), 0);
        Due.due("the greater half", x.next(0, 1), 128);
        x.note(0, 1, 15);
        x.note(0, 2, 5);
        Due.due("k, l are sure", x.next(2, 0), 2);
        Due.due("the greater half", x.next(2, 1), 32);
        x.note(0, 255, 15);
        Due.due("one TRUE one: the first", x.next(3, 0), 0);
        Due.due("its greater half", x.next(3, 1), 1);
        x = Due.of("well w 0 0; man a w 0; man b w 0; secret all 1 a b; secret no 1; secret s 1 b; secret t 1 b;");
        Due.due("known by all or none it never goes deeper", x.next(0, 0), 2);
        Due.due("the greater half", x.next(0, 1), 8);
        x = Due.of("well w 0 0; man a w 0; man b w 0; secret all 1 a b; secret no 1;");
        Due.due("none goes deeper: the first", x.next(0, 0), 0);
        Due.due("all of them", x.next(0, 1), 4);
        x = Due.of("well w 0 0; man a w 0; man b w 0; man c w 0; man d w 0; man e w 0; man f w 0; man g w 0; secret all 9 a b c d e f g; secret s 1 a b c d e f;");
        Due.due("1 deeper is deeper", x.next(0, 0), 1);
        Due.due("the greater half", x.next(0, 1), 2);
        // s + t + u = 20 deeper by three: 1 1 0, 1 0 1, 0 1 1; v is free: 3 and 3, the others 4 and 2.
        x = Due.of("well w 0 0; man a w 0; man b w 0; secret s 1 a; secret t 1 a; secret u 1 a; secret v 1 a;");
        x.note(0, 7, 20);
        Due.due("v", x.next(1, 0), 3);
        Due.due("the greater half", x.next(1, 1), 3);
        x.note(0, 8, 0);
        Due.due("v is false: s, the first of three alike", x.next(2, 0), 0);
        Due.due("2 and 1", x.next(2, 1), 2);
        x.forget();
        x.note(0, 7, 10);
        x.note(0, 8, 0);
        Due.due("1 and 2", x.next(2, 1), 2);
        Due.due("what -1", x.next(2, -1), -1);
        Due.due("what 2", x.next(2, 2), -1);
    }

    private static void nextOfNone() {
        Due.sentence("-2: no WELLS, no SECRETS, no TRUE ones; NONE: no such ones.");
        for (int what = 0; what < 2; what++) {
            Due.due("no WELLS", Due.of("secret s 1;").next(0, what), -2);
            Due.due("no SECRETS", Due.of("well w 1 1; man a w 0;").next(0, what), -2);
            Due.due("neither", new SecretWells().next(0, what), -2);
            SecretWells x = Due.of(Due.VILLAGE);
            x.note(0, 0, 21);
            Due.due("no TRUE ones", x.next(1, what), -2);
            Due.due("but ahead of it", x.next(0, what) >= 0, true);
            Due.due("no such k", x.next(2, what), -1);
        }
        Due.due("no WELLS, no such what", Due.of("secret s 1;").next(0, 2), -1);
        Due.due("no SECRETS, no such k", Due.of("well w 1 1;").next(1, 0), -1);
        Due.due("nothing told, no such what", new SecretWells().next(0, -1), -1);
    }

    // ---- SLOTS

    private static void hold() {
        Due.sentence("All that goes on (not what is TOLD, nor the tape) is held in a SLOT (0 .. 2): true; false: no such one.");
        for (int slot : new int[] {-1, 3, 4, 32, 34, Due.MIN, Due.MAX}) {
            Due.still("hold(" + slot + ")", Due::rich, x -> Due.bit(x.hold(slot)), 0);
            Due.still("hold(" + slot + ")", SecretWells::new, x -> Due.bit(x.hold(slot)), 0);
        }
        SecretWells x = Due.of(Due.VILLAGE);
        for (int slot = 0; slot < 3; slot++) {
            Due.due("hold(" + slot + ")", x.hold(slot), true);
            Due.due("SLOTS", x.count(11), slot + 1);
            x.days(1);
        }
        for (int slot = 2; slot >= 0; slot--) {
            Due.due("restore(" + slot + ")", x.restore(slot), true);
            Due.due("the day", x.count(4), slot);
        }
        x.days(7);
        Due.due("held anew", x.hold(1), true);
        Due.due("SLOTS", x.count(11), 3);
        int[] days = {0, 7, 2};
        for (int slot = 0; slot < 3; slot++) {
            x.restore(slot);
            Due.due("the day of " + slot, x.count(4), days[slot]);
        }
        x = new SecretWells();
        Due.due("nothing told can be held, too", x.hold(0), true);
        x.days(5);
        Due.due("restore(0)", x.restore(0), true);
        Due.due("the day", x.count(4), 0);
    }

    private static void holdsAllThatGoesOn() {
        Due.sentence("All that goes on (not what is TOLD, nor the tape) is held in a SLOT (0 .. 2): true; false: no such one.");
        for (Due.Made made : new Due.Made[] {Due::eventful, Due::full}) {
            SecretWells x = made.made();
            x.hold(1);
            x.cut(1, false);
            x.cut(0, true);
            x.whisper(1, 0, 1);
            x.drill(1, 1, 0);
            x.tell(1, 0, 0);
            x.go(1, 1);
            x.days(100);
            Due.due("restore(1)", x.restore(1), true);
            SecretWells y = made.made();
            y.hold(1);
            y.restore(1);
            Due.due("what there is", Due.probed(x), Due.probed(y));
            x = made.made();
            y = made.made();
            x.hold(0);
            x.days(3);
            x.restore(0);
            x.days(5);
            y.hold(0);
            y.days(1);
            y.restore(0);
            y.days(5);
            Due.due("it goes on from there", Due.probed(x), Due.probed(y));
        }
        SecretWells x = Due.of(Due.VILLAGE);
        x.whisper(0, 0, 0);
        x.whisper(0, 0, 1);
        x.whisper(0, 0, 0);
        x.cut(1, true);
        x.hold(0);
        x.cut(0, true);
        x.whisper(0, 0, 1);
        x.restore(0);
        Due.due("TIES that were cut", x.count(6), 2);
        Due.due("whispers so far", x.count(7), 3);
        x = Due.rich();
        x.hold(0);
        x.forget();
        x.note(0, 0, 20);
        x.back(13);
        x.restore(0);
        Due.due("TOLD is not held", x.count(10), 1);
        Due.due("TRUE ones by it", x.truth(1, -1), 16);
        Due.due("the tape is not held", x.count(8), 7);
        Due.due("it is read", x.read(), 0);
    }

    private static void restore() {
        Due.sentence("It goes on from what a SLOT holds (that stays there; nothing can be undone then): true;");
        SecretWells x = Due.of(Due.VILLAGE);
        x.days(1);
        x.hold(2);
        for (int i = 0; i < 5; i++) {
            x.days(i);
            x.cut(0, true);
            Due.due("restore(2)", x.restore(2), true);
            Due.due("the day", x.count(4), 1);
            Due.due("no TIE is cut", x.count(6), 0);
            Due.due("can be undone", x.count(9), 0);
            Due.due("undo()", x.undo(), false);
            Due.due("SLOTS", x.count(11), 1);
        }
        x.days(3);
        x.undo();
        Due.due("undone to what was held", x.count(4), 1);
        x.days(2);
        x.restore(2);
        x.days(2);
        Due.due("it stays as it was held", x.restore(2), true);
        Due.due("the day", x.count(4), 1);
    }

    private static void restoreNothing() {
        Due.sentence("true; false, and nothing happens: no such one, nothing is held.");
        Due.still("restore(1)", Due::rich, x -> Due.bit(x.restore(1)), 0);
        for (int slot : new int[] {-1, 3, 4, 32, 34, Due.MIN, Due.MAX}) {
            Due.still("restore(" + slot + ")", Due::rich, x -> Due.bit(x.restore(slot)), 0);
        }
        for (int slot = 0; slot < 3; slot++) {
            SecretWells x = Due.of(Due.VILLAGE);
            x.days(2);
            Due.due("nothing is held in " + slot, x.restore(slot), false);
            Due.due("the day", x.count(4), 2);
            Due.due("can be undone", x.count(9), 1);
            x.hold((slot + 1) % 3);
            Due.due("another one holds something", x.restore(slot), false);
            Due.due("can be undone", x.count(9), 1);
        }
    }

    private static void undoneBehindRestore() {
        Due.sentence("(that stays there; nothing can be undone then)");
        SecretWells x = Due.of(Due.VILLAGE);
        x.hold(0);
        for (int i = 0; i < 45; i++) {
            x.days(1);
        }
        Due.due("can be undone", x.count(9), 40);
        x.restore(0);
        Due.due("can be undone", x.count(9), 0);
        for (int i = 0; i < 41; i++) {
            x.days(1);
        }
        for (int i = 1; i <= 40; i++) {
            Due.due("undo()", x.undo(), true);
            Due.due("the day", x.count(4), 41 - i);
        }
        Due.due("undo()", x.undo(), false);
        Due.due("the day", x.count(4), 1);
    }

    // ---- counts

    private static void counts() {
        Due.sentence("13 SECRETS that are FALSE by the text (bits). NONE for others.");
        SecretWells x = Due.full();
        int[] due = {4, 7, 8, 12, 3, 122, 2, 2, 0, 7, 2, 2, 0, 4};
        for (int what = 0; what < 14; what++) {
            if (what != 12) {
                Due.due("count(" + what + ")", x.count(what), due[what]);
            }
        }
        for (int what : new int[] {-1, -2, 14, 15, 16, 32, Due.MIN, Due.MAX}) {
            Due.due("count(" + what + ")", x.count(what), -1);
        }
        Due.sentence("12 all WATER");
        Due.due("all WATER", x.count(12), x.well(0, 1) + x.well(1, 1) + x.well(2, 1) + x.well(3, 1));
        Due.due("all WATER of none", new SecretWells().count(12), 0);
        x = Due.of("well a 999 999; well b 999 999; well c 999 999; well d 999 999;");
        Due.due("all WATER of four", x.count(12), 3996);
        Due.sentence("7 whispers so far (drilled ones, too)");
        x = Due.of(Due.VILLAGE);
        int[] rows = {1, 2, 3, 3, 3, 2};
        x.whisper(0, 0, 0);
        Due.due("whispered", x.count(7), rows[0]);
        x.drill(0, 0, 1);
        Due.due("drilled", x.count(7), rows[1]);
        x.whisper(2, 2, 1);
        Due.due("a FALSE one", x.count(7), rows[2]);
        x.whisper(2, 2, 1);
        Due.due("a refused one", x.count(7), rows[3]);
        x.drill(1, 0, 0);
        Due.due("a refused one", x.count(7), rows[4]);
        x.undo();
        Due.due("one undone", x.count(7), rows[5]);
    }

    private static void countsOfSlots() {
        Due.sentence("11 SLOTS that hold something");
        for (int slots = 0; slots < 8; slots++) {
            SecretWells x = Due.of(Due.VILLAGE);
            for (int slot = 0; slot < 3; slot++) {
                if ((slots >> slot & 1) != 0) {
                    x.hold(slot);
                    x.hold(slot);
                }
            }
            Due.due("SLOTS of " + slots, x.count(11), Integer.bitCount(slots));
            for (int slot = 0; slot < 3; slot++) {
                Due.due("restore(" + slot + ") of " + slots, x.restore(slot), (slots >> slot & 1) != 0);
            }
        }
        Due.sentence("6 TIES that are cut (bits)");
        SecretWells x = Due.of("well w 1 1; man a w 1; man b w 1;" + Due.times(12, "tie a b;"));
        for (int tie = 0; tie < 12; tie++) {
            x.cut(tie, true);
            Due.due("cut " + tie, x.count(6), (2 << tie) - 1);
        }
        Due.sentence("8 bytes on the tape");
        Due.due("bytes", x.count(8), 0);
        x.feed(0, 0, 0, 0, 0);
        Due.due("bytes", x.count(8), 20);
        x.back(20);
        Due.due("bytes", x.count(8), 0);
    }

    private static void farDays() {
        Due.sentence("An object is used for at most 512 calls after it has been made;");
        String text = "well w 9 9; man a w 0; man b w 0; secret s 1 a; tie a b; seed 3; tells = if day < 4500 * 10 then 0 else ";
        int lot = Due.lot(100, 3, 128 * 45000);
        SecretWells x = Due.of(text + lot + ";");
        SecretWells y = Due.of(text + (lot + 1) + ";");
        for (int i = 1; i <= 450; i++) {
            Due.due("days(100)", x.days(100), 100 * i);
            y.days(100);
        }
        Due.due("on DAY 45,000", x.count(4), 45000);
        x.days(1);
        y.days(1);
        Due.due("not told", x.man(1, 3), 0);
        Due.due("told", y.man(1, 3), 1);
    }
}
