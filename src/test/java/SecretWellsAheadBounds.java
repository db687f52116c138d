/** The bounds of the document's part III (promises 17 to 30): what would be, and that nothing happens by asking. */
public final class SecretWellsAheadBounds {
    public static void main(String[] args) {
        nothingHappens();
        inDays();
        asItIsThen();
        fromAllThatIsNow();
        dryBy();
        dryForTheFirstTime();
        firstToDie();
        rainDays();
        rainSet();
        rainWithoutWells();
        rainByDead();
        rainByThirst();
        rainByWhispers();
        rainByWells();
        rainLeft();
        rainFromEachWell();
        rainBehindEachWhisper();
        rainOfAllSeven();
        rainOfNow();
        silenceFewest();
        silenceLeastBits();
        silenceWays();
        silenceRefused();
        reach();
        holds();
        rings();
        quietWho();
        quietHeaviest();
        quietGains();
        quietNumbers();
        odds();
        deaths();
        worth();
        Due.end();
    }

    /** Nobody thirsts; a may tell b. */
    private static final String PAIR = "well w 90 90; man a w 0; man b w 0; secret s 5 a; tie a b;";

    private static void nothingHappens() {
        Due.sentence("What would be (nothing happens).");
        for (Due.Made made : new Due.Made[] {Due::rich, Due::full}) {
            Due.untouched("wellIn", made, x -> x.wellIn(0, 200, 0));
            Due.untouched("manIn", made, x -> x.manIn(0, 200, 2));
            Due.untouched("dryBy", made, x -> x.dryBy(0) + x.dryBy(1));
            Due.untouched("first", made, x -> x.first(0) + x.first(1));
            Due.untouched("rain", made, x -> x.rain(15, 60, 0) + x.rain(15, 1, 2));
            Due.untouched("rainAt", made, x -> x.rainAt(15, 60, 0) + x.rainAt(3, 2, 1));
            Due.untouched("silence", made, x -> x.silence(0, 2, 0) + x.silence(2, 1, 1));
            Due.untouched("reach", made, x -> x.reach(0));
            Due.untouched("holds", made, x -> x.holds(0, 1));
            Due.untouched("rings", made, SecretWells::rings);
            Due.untouched("quiet", made, x -> x.quiet(0, -1) + x.quiet(0, 0));
            Due.untouched("odds", made, x -> x.odds(0, 0, 100, 20));
            Due.untouched("deaths", made, x -> x.deaths(100, 20));
            Due.untouched("worth", made, x -> x.worth(0));
        }
    }

    // ---- in n DAYS

    /** On the 200th DAY b is told, WELL 0 shoals and gets WATER, and c dies. */
    private static final String LATE = "well w 50 0; well v 9 9; well d 0 0; man a v 0; man b v 0; man c d 0; secret s 5 a; tie a b;"
        + "fills = if day < 199 then 0 else 7; tells = if day < 199 then 0 else 100; drinks = if day < 199 then 0 else which; thirst 1;";

    private static void inDays() {
        Due.sentence("In n DAYS (0 .. 200): how DEEP a WELL is, its WATER, who is alive, who knows a SECRET, THIRST of a MAN.");
        SecretWells x = Due.of(LATE);
        x.whisper(0, 0, 0);
        for (int n : new int[] {0, 1, 198, 199}) {
            Due.due("DEEP in " + n, x.wellIn(0, n, 0), 100);
            Due.due("WATER in " + n, x.wellIn(0, n, 1), 0);
            Due.due("WATER in " + n, x.wellIn(1, n, 1), 9);
            Due.due("c is alive in " + n, x.manIn(2, n, 0), 1);
            Due.due("THIRST in " + n, x.manIn(2, n, 1), 0);
            Due.due("b knows in " + n, x.manIn(1, n, 2), 0);
        }
        Due.due("DEEP in 200", x.wellIn(0, 200, 0), 50);
        Due.due("WATER in 200", x.wellIn(0, 200, 1), 7);
        Due.due("WATER in 200", x.wellIn(1, 200, 1), 8);
        Due.due("c is dead in 200", x.manIn(2, 200, 0), 0);
        Due.due("b is alive in 200", x.manIn(1, 200, 0), 1);
        Due.due("b knows in 200", x.manIn(1, 200, 2), 1);
        Due.due("THIRST of b in 200", x.manIn(1, 200, 1), 0);
        for (int n : new int[] {-1, 201}) {
            Due.due("DEEP in " + n, x.wellIn(0, n, 0), -1);
            Due.due("alive in " + n, x.manIn(0, n, 0), -1);
        }
        x.days(100);
        Due.due("from now on: 99", x.wellIn(0, 99, 0), 100);
        Due.due("from now on: 100", x.wellIn(0, 100, 0), 50);
        Due.due("nobody to look at", new SecretWells().wellIn(0, 0, 0), -1);
    }

    private static void asItIsThen() {
        Due.sentence("In n DAYS (0 .. 200): how DEEP a WELL is, its WATER, who is alive, who knows a SECRET, THIRST of a MAN.");
        for (int n : new int[] {0, 1, 2, 3, 7, 60, 100, 101, 199, 200}) {
            SecretWells x = Due.full();
            SecretWells then = Due.full();
            then.days(Math.min(100, n));
            then.days(n - Math.min(100, n));
            for (int w = 0; w < 4; w++) {
                Due.due("DEEP in " + n, x.wellIn(w, n, 0), then.well(w, 0));
                Due.due("WATER in " + n, x.wellIn(w, n, 1), then.well(w, 1));
            }
            for (int m = 0; m < 7; m++) {
                Due.due("alive in " + n, x.manIn(m, n, 0), then.man(m, 0));
                Due.due("THIRST in " + n, x.manIn(m, n, 1), then.man(m, 2));
                Due.due("SECRETS in " + n, x.manIn(m, n, 2), then.man(m, 3));
            }
        }
    }

    private static void fromAllThatIsNow() {
        Due.sentence("In n DAYS (0 .. 200): how DEEP a WELL is, its WATER, who is alive, who knows a SECRET, THIRST of a MAN.");
        Due.due("asked for first: he is alive", Due.of("well d 0 0; man m d 1; thirst 3;").manIn(0, 2, 0), 1);
        Due.due("asked for first: THIRST", Due.of("well d 0 0; man m d 1; thirst 3;").manIn(0, 2, 1), 2);
        Due.due("asked for first: WATER", Due.of("well d 9 0; man m d 1; fills = 3;").wellIn(0, 2, 1), 4);
        SecretWells x = Due.of(PAIR + "tells = 100;");
        Due.due("he is told", x.manIn(1, 1, 2), 1);
        x.cut(0, true);
        Due.due("a TIE that is cut", x.manIn(1, 200, 2), 0);
        Due.due("a TIE that is cut", x.odds(1, 0, 100, 20), 0);
        x.cut(0, false);
        Due.due("tied again", x.manIn(1, 1, 2), 1);
        x = Due.of("well u 90 0; well v 90 0; man a u 0; man b u 0; man c v 0; secret s 1 a; secret t 1 b; fills = 10 * know + with;");
        x.whisper(0, 0, 0);
        x.whisper(1, 1, 0);
        Due.due("two HOLD, two drink", x.wellIn(0, 1, 1), 22);
        Due.due("none, one", x.wellIn(1, 1, 1), 1);
        x.go(1, 1);
        x.whisper(1, 1, 1);
        Due.due("one, one", x.wellIn(0, 1, 1), 11);
        Due.due("one, two", x.wellIn(1, 1, 1), 12);
    }

    private static void dryBy() {
        Due.sentence("DRY BY: behind how many DAYS (0 .. 200) a WELL has no WATER, for the first time.");
        int[] water = {0, 1, 2, 199, 200, 201, 999};
        int[] dry = {0, 1, 2, 199, 200, -2, -2};
        for (int i = 0; i < water.length; i++) {
            SecretWells x = Due.of("well v 5 5; well w 999 " + water[i] + "; man m w 1; fills = 0;");
            Due.due("WATER " + water[i], x.dryBy(1), dry[i]);
            Due.due("nobody drinks from it", x.dryBy(0), -2);
            Due.due("no such WELL", x.dryBy(2), -1);
        }
        SecretWells x = Due.of("well w 999 201; man m w 1; fills = 0;");
        x.days(1);
        Due.due("200 from now on", x.dryBy(0), 200);
        Due.due("no ROCK", Due.of("well w 0 999; fills = 99;").dryBy(0), 0);
        Due.due("more than he drinks comes", Due.of("well w 9 5; man m w 5; fills = 5;").dryBy(0), -2);
        Due.due("as much as he drinks comes", Due.of("well w 5 5; man m w 5; fills = 5;").dryBy(0), 1);
    }

    private static void dryForTheFirstTime() {
        Due.sentence("DRY BY: behind how many DAYS (0 .. 200) a WELL has no WATER, for the first time.");
        SecretWells x = Due.of("well w 99 2; man m w 1; fills = if day < 2 then 0 else if day < 4 then 2 else 0;");
        int[] dry = {2, 1, 0, 3, 2, 1, 0, 0};
        for (int day = 0; day < dry.length; day++) {
            Due.due("on DAY " + day, x.dryBy(0), dry[day]);
            x.days(1);
        }
        x = Due.of("well w 0 0; man a w 0; man b w 0; secret s 5 a; tie a b; fills = 9; tells = if day < 3 then 0 else 100;");
        x.whisper(0, 0, 0);
        Due.due("now", x.dryBy(0), 0);
        x.days(1);
        Due.due("WATER", x.well(0, 1), 9);
        Due.due("when it shoals", x.dryBy(0), 3);
    }

    private static void firstToDie() {
        Due.sentence("FIRST to die from now on (200 DAYS): what 0 who (the first by number, if several on one DAY), 1 behind how many DAYS; -2: nobody;");
        int[] water = {0, 1, 198, 199, 200, 201};
        int[] behind = {1, 2, 199, 200, -2, -2};
        for (int i = 0; i < water.length; i++) {
            SecretWells x = Due.of("well w 999 " + water[i] + "; man l w 0; man m w 1; fills = 0; thirst 1;");
            Due.due("WATER " + water[i], x.first(1), behind[i]);
            Due.due("who", x.first(0), behind[i] < 0 ? -2 : 1);
        }
        SecretWells x = Due.of("well u 0 0; well w 5 5; man a w 1; man b u 1; man c u 1; fills = 0; thirst 2;");
        Due.due("b and c on one DAY", x.first(0), 1);
        Due.due("behind", x.first(1), 2);
        x.days(1);
        Due.due("behind, from now on", x.first(1), 1);
        x.days(1);
        Due.due("b and c are dead", x.count(5), 1);
        Due.due("a", x.first(0), 0);
        Due.due("behind, from now on", x.first(1), 5);
        x.days(5);
        Due.due("nobody is left", x.first(0), -2);
        Due.due("nobody is left", x.first(1), -2);
        x = Due.of("well u 0 0; well w 1 1; man a w 1; man b u 1; fills = 0; thirst 2;");
        Due.due("b ahead of a", x.first(0), 1);
        Due.due("behind", x.first(1), 2);
        Due.due("no MEN", Due.of("well w 0 0;").first(0), -2);
        Due.due("nothing told", new SecretWells().first(1), -2);
        Due.due("wrong ahead of nobody", new SecretWells().first(2), -1);
    }

    // ---- RAIN

    private static void rainDays() {
        Due.sentence("RAIN in n DAYS (1 .. 60), for a set of SECRETS, 4 at most");
        int[] water = {0, 1, 58, 59, 60};
        for (int w : water) {
            SecretWells x = Due.of("well w 999 " + w + "; man m w 1; secret s 1 m; fills = 0; thirst 1;");
            for (int n : new int[] {1, 2, 59, 60}) {
                Due.due("dead of WATER " + w + " in " + n, x.rain(1, n, 0), n > w ? 1 : 0);
            }
            for (int n : new int[] {-1, 0, 61}) {
                Due.due("rain in " + n, x.rain(1, n, 0), -1);
                Due.due("rainAt in " + n, x.rainAt(1, n, 0), -1);
            }
        }
        SecretWells x = Due.of("well w 999 1; man l w 0; man m w 1; secret s 1 m; fills = 0; thirst 2;");
        x.days(3);
        Due.due("who is dead does not die again", x.rain(1, 60, 0), 0);
    }

    private static void rainSet() {
        Due.sentence("RAIN (a set of SECRETS as bits, 1 to 4 of them): what 0 how many die, 1 THIRST, 2 whispers;");
        // Each of the eight makes 10 deeper; every ten more are drunk by one more man.
        StringBuilder text = new StringBuilder("well w 0 0; well v 0 0; fills = 99;");
        for (char c = 'a'; c < 'f'; c++) {
            text.append("man ").append(c).append(" w 9;");
        }
        for (char c = 'k'; c < 's'; c++) {
            text.append("secret ").append(c).append(" 1 a;");
        }
        SecretWells x = Due.of(text.toString());
        int[] sets = {1, 128, 3, 129, 7, 224, 15, 240, 170};
        for (int set : sets) {
            int size = Integer.bitCount(set);
            Due.due("dead of set " + set, x.rain(set, 1, 0), 0);
            Due.due("THIRST of set " + set, x.rain(set, 1, 1), 5 - size);
            Due.due("whispers of set " + set, x.rain(set, 1, 2), size);
            for (int i = -1; i <= size; i++) {
                Due.due("WELL " + i + " of set " + set, x.rainAt(set, 1, i), i < 0 || i == size ? -1 : 0);
            }
        }
        for (int set : new int[] {0, 31, 248, 255, 256, 257, -1, -128, Due.MIN}) {
            Due.due("rain of " + set, x.rain(set, 1, 0), -1);
            Due.due("rainAt of " + set, x.rainAt(set, 1, 0), -1);
        }
        Due.due("what 3", x.rain(1, 1, 3), -1);
        Due.due("what -1", x.rain(1, 1, -1), -1);
    }

    private static void rainWithoutWells() {
        Due.sentence("-2: no WELLS; NONE (looked at first): no such ones, not so many in the set.");
        SecretWells x = Due.of("secret s 1; secret t 1;");
        Due.due("rain", x.rain(3, 60, 2), -2);
        Due.due("rainAt 0", x.rainAt(3, 1, 0), -2);
        Due.due("rainAt 1", x.rainAt(3, 1, 1), -2);
        Due.due("not so many", x.rainAt(3, 1, 2), -1);
        Due.due("not so many", x.rainAt(1, 1, 1), -1);
        Due.due("no such n", x.rainAt(3, 0, 0), -1);
        Due.due("no such n", x.rain(3, 61, 0), -1);
        Due.due("no such what", x.rain(3, 1, 3), -1);
        Due.due("no such SECRET", x.rain(4, 1, 0), -1);
        Due.due("no SECRETS", new SecretWells().rain(1, 1, 0), -1);
        x = Due.of("well w 5 5; secret s 1;");
        Due.due("a WELL without MEN", x.rain(1, 60, 0), 0);
        Due.due("left", x.rainAt(1, 60, 0), -3);
    }

    private static void rainByDead() {
        Due.sentence("that way by which fewest die in n DAYS;");
        // Left, b dies and nobody thirsts; moved to v, nobody dies and a thirsts.
        SecretWells x = Due.of("well u 0 0; well v 0 0; man a u 9; man b v 9; secret s 1 a; fills = 9; thirst 2;");
        x.whisper(0, 0, 0);
        x.days(1);
        Due.due("THIRST of b", x.man(1, 2), 1);
        Due.due("dead", x.rain(1, 1, 0), 0);
        Due.due("THIRST", x.rain(1, 1, 1), 1);
        Due.due("whispers", x.rain(1, 1, 2), 1);
        Due.due("into v", x.rainAt(1, 1, 0), 1);
        // The more DAYS, the more die whatever is whispered: in two one of them, and the way by which nobody thirsts is due.
        Due.due("dead in 2", x.rain(1, 2, 0), 1);
        Due.due("THIRST in 2", x.rain(1, 2, 1), 0);
        Due.due("whispers in 2", x.rain(1, 2, 2), 0);
        Due.due("left in 2", x.rainAt(1, 2, 0), -3);
    }

    private static void rainByThirst() {
        Due.sentence("of alike ones by which all THIRST that MEN alive have then is least, then the fewest whispers");
        SecretWells x = Due.of("well u 0 0; well v 0 0; man a v 9; secret s 1 a; fills = 9;");
        Due.due("dead", x.rain(1, 1, 0), 0);
        Due.due("THIRST", x.rain(1, 1, 1), 0);
        Due.due("one whisper is worth it", x.rain(1, 1, 2), 1);
        Due.due("into v", x.rainAt(1, 1, 0), 1);
        x = Due.of("well u 0 0; well v 9 9; man a u 9; man b v 0; man c u 9; secret s 1 b; fills = 0; thirst 1;");
        Due.due("two die in any way", x.rain(1, 1, 0), 2);
        Due.due("THIRST of the dead is not counted", x.rain(1, 1, 1), 0);
        x = Due.of("well u 0 0; well v 9 9; man a u 9; man b v 0; man c u 9; secret s 1 b; fills = 0; thirst 9;");
        Due.due("THIRST of all", x.rain(1, 3, 1), 6);
        Due.due("THIRST then, as many DAYS", x.rain(1, 8, 1), 16);
    }

    private static void rainByWhispers() {
        Due.sentence("then the fewest whispers, then the first by the first SECRET's WELL");
        // s (10) into v or s and t (10 + 5) into u: one of a, b thirsts either way; one whisper is fewer.
        SecretWells x = Due.of("well u 0 0; well v 0 0; man a v 9; man b u 15; man c u 0; secret s 1 a; secret t 1 a b; fills = 99;");
        Due.due("THIRST", x.rain(3, 1, 1), 1);
        Due.due("whispers", x.rain(3, 1, 2), 1);
        Due.due("s into v", x.rainAt(3, 1, 0), 1);
        Due.due("t is left", x.rainAt(3, 1, 1), -3);
        // t and r (10 + 10) are met first, but s (20) alone does.
        x = Due.of("well u 0 0; man a u 15; man b u 0; secret s 2 a; secret t 1 a; secret r 1 a; fills = 99;");
        Due.due("nobody thirsts", x.rain(7, 1, 1), 0);
        Due.due("whispers", x.rain(7, 1, 2), 1);
        rainWay(x, 7, 0, -3, -3);
        x = Due.of("well u 99 99; man a u 1; secret s 1 a; secret t 1 a; secret r 1 a; secret q 1 a; fills = 99;");
        Due.due("none is fewest", x.rain(15, 60, 2), 0);
    }

    private static void rainWay(SecretWells x, int set, int... wells) {
        for (int i = 0; i < wells.length; i++) {
            Due.due("WELL of SECRET " + i + " of " + set, x.rainAt(set, 1, i), wells[i]);
        }
    }

    private static void rainByWells() {
        Due.sentence("then the first by the first SECRET's WELL (left as it is ahead of all), then the next one's.");
        String alike = "secret s 1 a; secret t 1 a; fills = 9;";
        rainWay(Due.of("well u 0 0; well v 0 0; man a u 9; man b v 9;" + alike), 3, 0, 1);
        rainWay(Due.of("well u 0 0; man a u 9;" + alike), 3, -3, 0);
        rainWay(Due.of("well u 0 0; well v 0 0; well w 0 0; man a u 9; man b v 9; man c w 9;" + alike), 3, 0, 1);
        rainWay(Due.of("well z 0 0; well u 0 0; well v 0 0; well w 0 0; man a w 9; man b v 9; man c u 9;" + alike), 3, 1, 2);
        rainWay(Due.of("well u 0 0; well v 0 0; man a u 9; man b v 9; secret n 1; secret s 1 a; secret m 1; secret t 1 a; fills = 9;"), 10, 0, 1);
        rainWay(Due.of("well u 0 0; man a u 19; man b u 0; secret s 1 a; secret t 1 a; secret r 1 a; fills = 99;"), 7, -3, 0, 0);
        rainWay(Due.of("well u 0 0; man a u 25; man b u 0; secret s 2 a; secret t 1 a; secret r 1 a; fills = 99;"), 7, 0, -3, 0);
        rainWay(Due.of("well u 0 0; well v 0 0; well w 0 0; well z 0 0; man a u 9; man b v 9; man c w 9; man d z 9;"
            + "secret s 1 a; secret t 1 a; secret r 1 a; secret q 1 a; fills = 9;"), 15, 0, 1, 2, 3);
    }

    private static void rainLeft() {
        Due.sentence("each is whispered now by the first MAN alive who knows it (if there is none, it is left) into some WELL, "
            + "that where it is too, or is left as it is");
        String two = "well u 0 0; well v 0 0; man a u 9; man b v 9; fills = 9;";
        rainWay(Due.of(two + "secret s 1; secret t 1 a;"), 3, -3, 0);
        rainWay(Due.of(two + "secret s 1 false a; secret t 1 a;"), 3, -3, 0);
        rainWay(Due.of(two + "secret s 1 a b; secret t 1 a;"), 3, -3, 0);
        SecretWells x = Due.of(two + "secret s 1 a; secret t 1 a;");
        x.whisper(0, 1, 1);
        rainWay(x, 3, 0, -3);
        x.whisper(0, 0, 0);
        rainWay(x, 3, -3, -3);
        Due.due("where they are", x.rain(3, 1, 2), 0);
        x = Due.of("well d 0 0; well u 0 0; well v 0 0; man a d 9; man b v 9; man c v 0; secret s 1 a; secret t 1 a b; fills = 9 * which; thirst 1; drinks = if day < 1 then 9 * (1 - which) else 9;");
        x.days(1);
        Due.due("a is dead", x.count(5), 6);
        Due.due("who is dead does not whisper", x.rainAt(1, 1, 0), -3);
        Due.due("b does", x.rainAt(2, 1, 0), 2);
        Due.due("c dies", x.rain(3, 1, 0), 1);
    }

    /** Wherever it is, it goes where it is wanted; where it is wanted, it is left. */
    private static void rainFromEachWell() {
        Due.sentence("into some WELL, that where it is too, or is left as it is");
        String wells = "well a 0 0; well b 0 0; well c 0 0; well d 0 0;";
        for (int is = 0; is < 4; is++) {
            for (int wanted = 0; wanted < 4; wanted++) {
                SecretWells x = Due.of(wells + "man m " + "abcd".charAt(wanted) + " 9; secret n 1; secret s 1 m; fills = 9;");
                x.whisper(0, 1, is);
                Due.due("from " + is + " to " + wanted, x.rainAt(2, 1, 0), is == wanted ? -3 : wanted);
                Due.due("from " + is + " to " + wanted, x.rainAt(3, 1, 1), is == wanted ? -3 : wanted);
                Due.due("nobody thirsts", x.rain(2, 1, 1), 0);
                Due.due("whispers", x.rain(2, 1, 2), is == wanted ? 0 : 1);
            }
        }
    }

    /** t leaves u with its WATER: if that is ahead of s, nothing is left for s to hold; if it is behind s, 5 are. */
    private static void rainBehindEachWhisper() {
        Due.sentence("WATER is no more than DEEP behind each.");
        String ahead = "well u 0 0; well v 0 0; man a u 5; man b v 9; man c u 0;";
        String behind = "fills = if day < 1 then 99 * (1 - which) else 9 * which;";
        SecretWells x = Due.of(ahead + "secret t 2 a; secret s 1 a b;" + behind);
        x.whisper(0, 0, 0);
        x.days(1);
        Due.due("WATER of u", x.well(0, 1), 15);
        Due.due("t first: somebody thirsts", x.rain(3, 1, 1), 1);
        x = Due.of(ahead + "secret s 1 a b; secret t 2 a;" + behind);
        x.whisper(0, 1, 0);
        x.days(1);
        Due.due("WATER of u", x.well(0, 1), 15);
        Due.due("s first: nobody thirsts", x.rain(3, 1, 1), 0);
        rainWay(x, 3, 0, 1);
    }

    private static void rainOfAllSeven() {
        Due.sentence("that way by which fewest die in n DAYS;");
        StringBuilder seven = new StringBuilder("well w 0 0; secret n 1; fills = 0; thirst 2;");
        for (char c = 'a'; c < 'h'; c++) {
            seven.append("man ").append(c).append(" w 1;");
        }
        SecretWells x = Due.of(seven + "secret s 1 a;");
        Due.due("THIRST in 1", x.rain(3, 1, 1), 7);
        for (int set : new int[] {1, 2, 3}) {
            Due.due("all seven die", x.rain(set, 60, 0), 7);
            Due.due("nobody is left to thirst", x.rain(set, 60, 1), 0);
            Due.due("no whispers", x.rain(set, 60, 2), 0);
            Due.due("left", x.rainAt(set, 60, 0), -3);
        }
    }

    /** The same question behind each thing done, and behind another text, is asked of what is then. */
    private static void rainOfNow() {
        Due.sentence("each is whispered now by the first MAN alive who knows it");
        SecretWells x = Due.of("well w 5 0; well v 20 0; man a w 9; man b w 0; secret s 5 a; secret t 5 a; tie a b; tells = 100; fills = 9; thirst 3;");
        Due.due("a thirsts when b knows it", x.rain(1, 2, 1), 1);
        x.hold(0);
        x.cut(0, true);
        Due.due("behind cut()", x.rain(1, 2, 1), 0);
        x.undo();
        Due.due("behind undo()", x.rain(1, 2, 1), 1);
        x.go(0, 1);
        Due.due("behind go()", x.rain(1, 2, 1), 0);
        x.restore(0);
        Due.due("behind restore()", x.rain(1, 2, 1), 1);
        Due.due("in 1 DAY", x.rain(1, 1, 1), 0);
        x.days(1);
        Due.due("behind days()", x.rain(1, 1, 1), 2);
        Due.feed(x, "well w 5 0; secret s 5;");
        x.read();
        Due.due("behind read()", x.rain(1, 1, 1), 0);
    }

    // ---- SILENCE and REACH

    private static final String FOUR = "well w 90 90; man a w 0; man b w 0; man c w 0; man d w 0; fills = 0; secret s 1 a; secret t 1 a b; secret n 1; secret l 9 false a;";

    private static void silence(SecretWells x, int secret, int man, int fewest, int bits) {
        Due.due("how many for " + secret + ", " + man, x.silence(secret, man, 0), fewest);
        Due.due("which for " + secret + ", " + man, x.silence(secret, man, 1), bits);
    }

    private static void silenceFewest() {
        Due.sentence("SILENCE for a SECRET and a MAN: the fewest TIES that must be cut");
        SecretWells x = Due.of(FOUR + "tie a b; tie a c; tie b d; tie c d;");
        silence(x, 0, 3, 2, 3);
        silence(x, 0, 1, 1, 1);
        silence(x, 2, 3, 0, 0);
        silence(x, 3, 3, 2, 3);
        x = Due.of(FOUR + "tie a b; tie a c; tie b d; tie c b;");
        silence(x, 0, 3, 1, 4);
        x = Due.of(FOUR);
        silence(x, 0, 3, 0, 0);
        x = Due.of("well w 9 9; man a w 0; man b w 0; secret s 1 a;" + Due.times(12, "tie a b;"));
        silence(x, 0, 1, 12, 4095);
        x.cut(11, true);
        silence(x, 0, 1, 11, 2047);
        String ab = "well w 9 9; man a w 0; man b w 0; secret s 1 a;";
        silence(Due.of(ab + Due.times(11, "tie a b;") + "tie b a;"), 0, 1, 11, 2047);
        silence(Due.of(ab + "tie b a;" + Due.times(11, "tie a b;")), 0, 1, 11, 4094);
        silence(Due.of(ab + "tie b a; tie b a;" + Due.times(10, "tie a b;")), 0, 1, 10, 4092);
        x = Due.of("well w 9 9; man a w 0; man b w 0; secret s 1 a;" + Due.times(11, "tie b a;") + "tie a b;");
        silence(x, 0, 1, 1, 2048);
    }

    private static void silenceLeastBits() {
        Due.sentence("of alike ones the least bits.");
        silence(Due.of(FOUR + "tie a b; tie b c; tie c d;"), 0, 3, 1, 1);
        silence(Due.of(FOUR + "tie c d; tie b c; tie a b;"), 0, 3, 1, 1);
        silence(Due.of(FOUR + "tie b c; tie a b; tie c d;"), 0, 3, 1, 1);
        silence(Due.of(FOUR + "tie d a; tie b a; tie a b; tie c d; tie b c;"), 0, 3, 1, 4);
        // By b: TIES 1, 3; by c: TIES 4, 2. One of each: 1 and 2 (6), 1 and 4 (18), 3 and 2 (12), 3 and 4 (24).
        silence(Due.of(FOUR + "tie d a; tie a b; tie c d; tie b d; tie a c;"), 0, 3, 2, 6);
        silence(Due.of(FOUR + "tie a d; tie b d; tie a d; tie b d;"), 1, 3, 4, 15);
        silence(Due.of(FOUR + "tie c d; tie a c; tie b c; tie a c;"), 1, 3, 1, 1);
    }

    private static void silenceWays() {
        Due.sentence("so that by no TIES (that are not cut, between MEN alive, whatever TELLS tells) it can come from any who know it to him;");
        silence(Due.of(FOUR + "tie a b; tie b c; tells = 0;"), 0, 2, 1, 1);
        silence(Due.of(FOUR + "tie a b; tie b c; tells = 100;"), 0, 2, 1, 1);
        silence(Due.of(FOUR + "tie b a; tie c b;"), 0, 2, 0, 0);
        silence(Due.of(FOUR + "tie a c; tie b c;"), 1, 2, 2, 3);
        SecretWells x = Due.of(FOUR + "tie a b; tie b c; tie a c;");
        silence(x, 0, 2, 2, 5);
        x.cut(0, true);
        silence(x, 0, 2, 1, 4);
        x.cut(2, true);
        silence(x, 0, 2, 0, 0);
        x.cut(0, false);
        silence(x, 0, 2, 1, 1);
        String dying = "well w 90 90; well d 0 0; man a w 0; man b d 9; man c w 0; secret s 1 a; secret o 1 b; secret t 1 a b; tie a b; tie b c; fills = 0; thirst 1;";
        x = Due.of(dying);
        silence(x, 0, 2, 1, 1);
        silence(x, 2, 2, 1, 2);
        x.days(1);
        Due.due("b is dead", x.count(5), 5);
        silence(x, 0, 2, 0, 0);
        silence(x, 1, 2, 0, 0);
        silence(x, 2, 2, 0, 0);
    }

    private static void silenceRefused() {
        Due.sentence("-2: he knows it, is dead; NONE: no such ones.");
        SecretWells x = Due.full();
        for (int what = 0; what < 2; what++) {
            Due.due("he knows it", x.silence(3, 1, what), -2);
            Due.due("he is dead", x.silence(0, 2, what), -2);
            Due.due("both", x.silence(2, 2, what), -2);
            Due.due("dead, nobody knows it", x.silence(6, 0, what), -2);
            Due.due("dead, no such SECRET", x.silence(8, 0, what), -1);
            Due.due("nobody knows it", x.silence(6, 1, what), 0);
        }
        Due.due("he knows it, no such what", x.silence(3, 1, 2), -1);
        Due.due("he is dead, no such what", x.silence(0, 0, -1), -1);
    }

    private static void reach() {
        Due.sentence("REACH of a SECRET: MEN alive to whom it can come so (who know it, too).");
        SecretWells x = Due.of(FOUR + "tie a b; tie b c; tie d c;");
        Due.due("a, b, c", x.reach(0), 7);
        Due.due("a, b, c", x.reach(1), 7);
        Due.due("nobody", x.reach(2), 0);
        Due.due("a FALSE one, too", x.reach(3), 7);
        x.cut(0, true);
        Due.due("a alone", x.reach(0), 1);
        Due.due("a, b, c", x.reach(1), 7);
        Due.due("no such one", x.reach(4), -1);
        x = Due.of(FOUR);
        Due.due("no TIES: who know it", x.reach(1), 3);
        x = Due.of("well w 90 90; well d 0 0; man a w 0; man b d 9; man c w 0; secret s 1 a; secret o 1 b; secret t 1 a b; tie a b; tie b c; fills = 0; thirst 1;");
        Due.due("alive", x.reach(0), 7);
        x.days(1);
        Due.due("not through the dead", x.reach(0), 1);
        Due.due("not from the dead", x.reach(1), 0);
        Due.due("not the dead who knew it", x.reach(2), 1);
        StringBuilder chain = new StringBuilder("well w 9 9;");
        for (char c = 'a'; c < 'h'; c++) {
            chain.append("man ").append(c).append(" w 0;");
        }
        // The last TIE is told first, so that one round is not enough.
        x = Due.of(chain + "secret s 1 a; tie f g; tie e f; tie d e; tie c d; tie b c; tie a b;");
        Due.due("all seven", x.reach(0), 127);
        silence(x, 0, 6, 1, 1);
        x = Due.of(chain + "secret s 1 g; tie b a; tie c b; tie d c; tie e d; tie f e; tie g f;");
        Due.due("all seven, backwards", x.reach(0), 127);
    }

    // ---- HOLDS and RINGS

    private static void holds() {
        Due.sentence("HOLDS of a MAN and another one: how many SECRETS the first one knows that the other one knows, and nobody else alive (0, if one of them is dead);");
        String men = "well w 90 90; well d 0 0; man a w 0; man b w 0; man c d 9; fills = 0; thirst 1;";
        StringBuilder eight = new StringBuilder(men);
        for (char c = 'k'; c < 's'; c++) {
            eight.append("secret ").append(c).append(c == 'r' ? " 1 false a b;" : " 1 a b;");
        }
        SecretWells x = Due.of(eight.toString());
        Due.due("all eight, a FALSE one too", x.holds(0, 1), 8);
        Due.due("each other", x.holds(1, 0), 8);
        Due.due("not c", x.holds(0, 2), 0);
        x.tell(0, 2, 0);
        Due.due("c knows one of them", x.holds(0, 1), 7);
        x.days(1);
        Due.due("c is dead", x.holds(0, 1), 8);
        Due.due("c knew one of them, and is dead", x.holds(0, 2), 0);
        Due.due("one is dead", x.holds(2, 1), 0);
        x = Due.of(men + "secret s 1 a; secret t 1 b; secret u 1 a b c; secret v 1;");
        Due.due("none", x.holds(0, 1), 0);
        for (int m = 0; m < 3; m++) {
            Due.due("one and the same", x.holds(m, m), -1);
        }
        x.days(1);
        Due.due("one and the same, dead", x.holds(2, 2), -1);
        Due.due("all who are alive: just those two", x.holds(0, 1), 1);
    }

    private static void rings() {
        Due.sentence("RINGS: how many pairs of MEN alive hold each other so, each by a SECRET known to just those two (pairs with one or more).");
        Due.due("nobody", new SecretWells().rings(), 0);
        String men = "well w 90 90; well d 0 0; man a w 0; man b w 0; man c w 0; man e w 0; man f w 0; man g w 0; man h d 9; fills = 0; thirst 1;";
        Due.due("no SECRETS", Due.of(men).rings(), 0);
        Due.due("one knows it, or three", Due.of(men + "secret s 1 a; secret t 1 a b c; secret u 1;").rings(), 0);
        Due.due("one pair", Due.of(men + "secret s 1 a b;").rings(), 1);
        Due.due("one pair by three", Due.of(men + "secret s 1 a b; secret t 1 a b; secret u 1 b a;").rings(), 1);
        SecretWells x = Due.of(men + "secret s 1 a b; secret t 1 a c; secret u 1 a h; secret v 1 g h; secret x 1 e f; secret y 1 b c; secret z 1 f g; secret o 1 a e h;");
        Due.due("seven pairs", x.rings(), 7);
        x.days(1);
        Due.due("without h: two less, one more", x.rings(), 6);
        Due.due("two MEN", Due.of("well w 1 1; man a w 0; man b w 0; secret s 1 false a b;").rings(), 1);
        Due.due("one MAN", Due.of("well w 1 1; man a w 0; secret s 1 a;").rings(), 0);
    }

    // ---- QUIET

    /** RESTS, all of them, and one beyond. */
    private static void rests(SecretWells x, int well, int... sets) {
        Due.due("RESTS of " + well, x.quiet(well, -1), sets.length);
        for (int i = 0; i < sets.length; i++) {
            Due.due("REST " + i + " of " + well, x.quiet(well, i), sets[i]);
        }
        Due.due("one beyond", x.quiet(well, sets.length), -1);
    }

    private static void quietWho() {
        Due.sentence("QUIET for a WELL: MEN alive who know a SECRET that is whispered nowhere and would HOLD there, may whisper");
        String two = "well u 0 0; well v 0 0; man a u 0; man b v 0;";
        rests(Due.of(two), 0, 0);
        rests(Due.of(two + "secret s 1 a;"), 0, 1);
        rests(Due.of(two + "secret s 1 a b;"), 0, 0);
        rests(Due.of(two + "secret s 1 false a;"), 0, 0);
        rests(Due.of(two + "secret s 1;"), 0, 0);
        SecretWells x = Due.of(two + "secret s 1 a;");
        x.whisper(0, 0, 1);
        rests(x, 0, 0);
        x.undo();
        x.whisper(0, 0, 0);
        rests(x, 0, 0);
        rests(x, 1, 0);
        x = Due.of("well u 0 0; man a u 0; secret s 1 a;");
        rests(x, 0, 1);
        x = Due.of("well u 0 0; well d 0 0; man a u 0; man b d 9; man c u 0; secret s 1 a b; secret t 1 b; secret r 1 a c; thirst 1; fills = 0;");
        // a and b may whisper s, c may whisper r: alone each loses more than the 2 he gains.
        rests(x, 0, 0, 7);
        x.days(1);
        Due.due("b is dead", x.count(5), 5);
        // b may not any more; s is a's alone and would make 10 deeper, r is known by all alive.
        rests(x, 0, 1);
        rests(Due.of("well u 0 0;"), 0, 0);
    }

    private static void quietHeaviest() {
        Due.sentence("may whisper the heaviest such one (of alike ones the first) into it, or not");
        // By s (5) a gains 5 less 5; by t (10) he would gain 10 less 5.
        String men = "well u 0 0; well v 0 0; man a u 0; man b v 0; man c v 0;";
        rests(Due.of(men + "secret s 1 a b; secret t 1 a;"), 0, 0, 1, 3);
        rests(Due.of(men + "secret t 1 a; secret s 1 a b;"), 0, 1, 3);
        rests(Due.of(men + "secret s 1 a b; secret t 2 a;"), 0, 1, 3);
        rests(Due.of(men + "secret s 2 a b; secret t 1 a;"), 0, 1, 3);
        rests(Due.of(men + "secret s 1 a b; secret f 9 false a; secret w" + "w 9 a b c;"), 0, 0, 1, 3);
    }

    private static void quietGains() {
        Due.sentence("each who drinks from it gains DEEP then by how many alive drink from it (rounded down); each one who whispers loses 5 * how many do not.");
        // Six drink from u, and 35 by 6 is 5 (rounded down): as much as a loses if g does not; 36 by 6 is 6.
        String men = " 0; well v 0 0; man a u 0; man b u 0; man c u 0; man d u 0; man e u 0; man f u 0; man g v 0; secret s 7 a g;";
        rests(Due.of("well u 0" + men), 0, 0, 1, 65);
        rests(Due.of("well u 1" + men), 0, 1, 65);
        Due.sentence("RESTS: sets of those who may by which nobody, by himself, had more doing the other thing (two with one SECRET: it is whispered once).");
        rests(Due.of("well u 0 0; man a u 0; man b u 0; man c u 0; secret s 3 a b;"), 0, 0, 1, 2, 3);
        rests(Due.of("well u 0 0; man a u 0; man b u 0; man c u 0; secret s 4 a b;"), 0, 1, 2, 3);
        rests(Due.of("well u 0 0; man a u 0; man b u 0; man c u 0; secret s 3 a; secret t 3 b;"), 0, 3);
        Due.sentence("each who drinks from it gains DEEP then by how many alive drink from it (rounded down)");
        // Nobody drinks from v: who whispers with the others who may loses nothing, and gains nothing.
        SecretWells x = Due.of("well u 0 0; well v 0 0; man a u 0; man b u 0; man c u 0; secret s 3 a; secret t 3 b;");
        rests(x, 1, 0, 3);
        rests(Due.of("well u 0 0; well v 0 0; man a u 0; man b u 0; secret s 3 a;"), 1, 0, 1);
        x.go(2, 1);
        x.go(2, 0);
        rests(x, 1, 0, 3);
        // b, who drank from u, is dead: a alone gains all of 10, ahead he gained 5 and lost 5.
        x = Due.of("well u 0 0; well v 9 9; man a u 0; man b u 9; man c v 0; secret s 1 a; secret t 1 c; fills = 0; thirst 1;");
        rests(x, 0, 0, 1, 5);
        x.days(1);
        Due.due("b is dead", x.count(5), 5);
        rests(x, 0, 1, 5);
    }

    private static void quietNumbers() {
        Due.sentence("how many (i NONE), else the i-th (bits of MEN, the least first); NONE: no such ones, not so many.");
        SecretWells x = Due.of("well u 0 0; man a u 0; man b u 0; man c u 0; secret s 3 a b;");
        for (int i : new int[] {-2, -3, 4, 5, 31, 32, 127, 128, Due.MIN, Due.MAX}) {
            Due.due("quiet(0, " + i + ")", x.quiet(0, i), -1);
        }
        Due.due("no such WELL", x.quiet(1, -1), -1);
        Due.due("no such WELL", x.quiet(-1, -1), -1);
        Due.due("no such WELL", x.quiet(1, 0), -1);
        // All seven may: the one SECRET each has makes 10 deeper for himself and six others.
        StringBuilder seven = new StringBuilder("well u 0 0; well v 0 0;");
        for (char c = 'a'; c < 'h'; c++) {
            seven.append("man ").append(c).append(" u 0; secret s").append(c).append(" 1 ").append(c).append(";");
        }
        rests(Due.of(seven.toString()), 0, 0, 127);
        rests(Due.of(seven.toString()), 1, 0, 127);
        // Known by six of seven it makes just 1 deeper: those six may.
        StringBuilder six = new StringBuilder("well u 6 0;");
        for (char c = 'a'; c < 'h'; c++) {
            six.append("man ").append(c).append(" u 0;");
        }
        rests(Due.of(six + "secret s 1 a b c d e f;"), 0, 0, 63);
    }

    // ---- ODDS, DEATHS, WORTH

    private static void odds() {
        Due.sentence("ODDS by s SEEDS (1 .. 20) from the text's SEED on: in how many of them a MAN knows a SECRET in n DAYS (0 .. 100);");
        for (int seed : new int[] {0, 7, 9980, 9999}) {
            SecretWells x = Due.of("well w 90 90; man a w 0; man b w 0; secret s 5 a; secret t 5; tie a b; tells = 3; seed " + seed + ";");
            for (int s : new int[] {1, 2, 19, 20}) {
                for (int n : new int[] {0, 1, 2, 50, 99, 100}) {
                    Due.due("b of " + s + " from " + seed + " in " + n, x.odds(1, 0, n, s), oftenTold(seed, s, n, 3));
                    Due.due("a knows it in all", x.odds(0, 0, n, s), s);
                    Due.due("nobody knows t", x.odds(0, 1, n, s), 0);
                }
            }
            for (int[] wrong : new int[][] {{0, 0}, {0, 21}, {-1, 1}, {101, 1}, {100, -1}}) {
                Due.due("n " + wrong[0] + ", s " + wrong[1], x.odds(1, 0, wrong[0], wrong[1]), -1);
            }
        }
        SecretWells x = Due.of("well w 90 90; man a w 0; man b w 0; secret s 5 a; tie a b; tells = if day < 99 then 0 else 100;");
        Due.due("in 99", x.odds(1, 0, 99, 20), 0);
        Due.due("in 100", x.odds(1, 0, 100, 20), 20);
        x.days(1);
        Due.due("from now on", x.odds(1, 0, 99, 20), 20);
    }

    private static int oftenTold(int seed, int s, int n, int chance) {
        int often = 0;
        for (int i = 0; i < s; i++) {
            boolean isTold = false;
            for (int day = 0; day < n; day++) {
                isTold |= Due.lot(100, seed + i, 128 * day) < chance;
            }
            often += isTold ? 1 : 0;
        }
        return often;
    }

    private static void deaths() {
        Due.sentence("DEATHS: how many are dead in n DAYS, in all of them together.");
        SecretWells x = Due.of("well w 999 99; man m w 1; fills = 0; thirst 1;");
        Due.due("in 99", x.deaths(99, 20), 0);
        Due.due("in 100", x.deaths(100, 20), 20);
        Due.due("in 100 by one", x.deaths(100, 1), 1);
        Due.due("in 0", x.deaths(0, 20), 0);
        for (int[] wrong : new int[][] {{0, 0}, {0, 21}, {-1, 1}, {101, 1}, {100, -1}}) {
            Due.due("n " + wrong[0] + ", s " + wrong[1], x.deaths(wrong[0], wrong[1]), -1);
        }
        StringBuilder seven = new StringBuilder("well w 0 0; thirst 1;");
        for (char c = 'a'; c < 'h'; c++) {
            seven.append("man ").append(c).append(" w 1;");
        }
        x = Due.of(seven.toString());
        Due.due("all seven by 20", x.deaths(1, 20), 140);
        x.days(1);
        Due.due("who are dead already", x.deaths(0, 20), 140);
        Due.due("no MEN", new SecretWells().deaths(100, 20), 0);
        // a dies on the second DAY if LOT has him tell b on the first.
        for (int seed : new int[] {0, 9990}) {
            x = Due.of("well w 0 0; man a w 5; man b w 0; secret s 1 a; tie a b; tells = if day < 1 then 50 else 0; fills = 9; thirst 1; seed " + seed + ";");
            x.whisper(0, 0, 0);
            for (int s : new int[] {1, 2, 19, 20}) {
                Due.due("by " + s + " SEEDS from " + seed, x.deaths(2, s), oftenTold(seed, s, 1, 50));
                Due.due("in one DAY", x.deaths(1, s), 0);
            }
        }
    }

    private static void worth() {
        Due.sentence("WORTH of a SECRET: how much deeper its WELL would be if nobody but the first MAN alive who knows it knew it "
            + "(0, if it is whispered nowhere, is FALSE, nobody alive knows it).");
        String men = "well w 90 90; well d 0 0; man a w 0; man b w 0; man c w 0; man e w 0; man f w 0; man g w 0; man h d 9; fills = 0; thirst 1;";
        String[] who = {" a", " a b", " a b c", " a b c e", " a b c e f", " a b c e f g", " a b c e f g h"};
        int[] heavies = {1, 2, 7, 99};
        for (int known = 1; known <= 7; known++) {
            for (int heavy : heavies) {
                SecretWells x = Due.of(men + "secret s " + heavy + who[known - 1] + "; secret f" + "f " + heavy + " false" + who[known - 1] + ";");
                Due.due("whispered nowhere", x.worth(0), 0);
                x.whisper(0, 0, 0);
                x.whisper(0, 1, 0);
                Due.due(heavy + " known by " + known, x.worth(0), known == 7 ? 10 * heavy : 10 * heavy - 10 * heavy / known);
                Due.due("FALSE", x.worth(1), 0);
                x.days(1);
                Due.due(heavy + " known by " + known + " without h", x.worth(0), known >= 6 ? 10 * heavy : 10 * heavy - 10 * heavy / known);
            }
        }
        SecretWells x = Due.of(men + "secret s 5 h; secret n 5; secret t 5 g h;");
        x.whisper(6, 0, 0);
        x.whisper(6, 2, 0);
        Due.due("known by two", x.worth(2), 25);
        x.days(1);
        Due.due("nobody alive knows it", x.worth(0), 0);
        Due.due("nobody ever knew it", x.worth(1), 0);
        Due.due("known by one alive", x.worth(2), 0);
        Due.due("no such SECRET", x.worth(3), -1);
        x = Due.of("well w 9 9; man a w 0; secret s 5 a;");
        x.whisper(0, 0, 0);
        Due.due("the only one alive", x.worth(0), 0);
        x = Due.of("well w 9 9; man a w 0; man b w 0; secret s 5 a b;");
        x.whisper(0, 0, 0);
        Due.due("two alive, both know it", x.worth(0), 50);
    }
}
