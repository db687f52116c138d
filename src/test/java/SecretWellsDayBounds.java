/** The bounds of the document's part II and of what is done (promises 6 to 16): HOLDS, DAYS, LAWS, LOT, by hand, undone. */
public final class SecretWellsDayBounds {
    public static void main(String[] args) {
        known();
        holds();
        onlyOneAlive();
        roundedDown();
        oneWellAtMost();
        fill();
        drink();
        die();
        deathWithinADay();
        tellTies();
        knewAhead();
        waterBehindADay();
        cases();
        wraps();
        towardsZero();
        byZero();
        variablesOfFills();
        variablesOfDrinks();
        variablesOfTells();
        heldTo();
        lots();
        days();
        whisper();
        drill();
        tell();
        go();
        cut();
        undo();
        undoEach();
        noThingDone();
        now();
        Due.end();
    }

    // ---- what HOLDS

    /** Seven men at a well of 100; d is dry and b, who drinks from it, dies on the first DAY. */
    private static final String SEVEN = "well w 100 0; well d 0 0; man a w 0; man b d 9; man c w 0; man e w 0; man f w 0; man g w 0; man h w 0;"
        + "fills = 0; thirst 1;";

    private static void known() {
        Due.sentence("KNOWN: by how many MEN alive a SECRET is known.");
        SecretWells x = Due.of(SEVEN + "secret none 1; secret one 1 b; secret two 1 a b; secret all 1 a b c e f g h;");
        int[] ahead = {0, 1, 2, 7};
        int[] behind = {0, 0, 1, 6};
        int[] who = {0, 2, 3, 127};
        for (int s = 0; s < 4; s++) {
            Due.due("KNOWN of " + s, x.secret(s, 1), ahead[s]);
        }
        x.days(1);
        Due.due("b is dead", x.count(5), 125);
        for (int s = 0; s < 4; s++) {
            Due.due("KNOWN of " + s + " without b", x.secret(s, 1), behind[s]);
            Due.due("who know " + s + ", alive or not", x.secret(s, 0), who[s]);
        }
    }

    private static void holds() {
        Due.sentence("It HOLDS in a WELL into which it was whispered, if it is not FALSE and is KNOWN by one or more, "
            + "but not by all MEN alive (by the only one alive it is)");
        SecretWells x = Due.of(SEVEN + "secret one 1 b; secret six 6 a b c e f g; secret all 7 a b c e f g h; secret lie 9 false a;"
            + "secret out 9 a;");
        Due.due("KNOWN by one", x.whisper(1, 0, 0), 110);
        Due.due("KNOWN by all but one", x.whisper(0, 1, 0), 120);
        Due.due("KNOWN by all", x.whisper(0, 2, 0), 120);
        Due.due("FALSE", x.whisper(0, 3, 0), 120);
        Due.due("whispered", x.well(0, 2), 15);
        Due.due("that HOLD", x.well(0, 3), 3);
        Due.due("not whispered", x.secret(4, 3), 0);
        int[] deeper = {10, 10, 0, 0};
        for (int s = 0; s < 4; s++) {
            Due.due("makes deeper: " + s, x.secret(s, 3), deeper[s]);
        }
        x.days(1);
        Due.due("b is dead: KNOWN by none, by 5 of 6, by all 6", x.well(0, 0), 112);
        Due.due("that HOLD without b", x.well(0, 3), 2);
        Due.due("told to all", x.tell(0, 6, 1), true);
        Due.due("KNOWN by all alive", x.well(0, 0), 100);
        Due.due("that HOLD", x.well(0, 3), 0);
    }

    private static void onlyOneAlive() {
        Due.sentence("(by the only one alive it is)");
        SecretWells x = Due.of("well w 5 0; man a w 0; secret s 3 a; secret n 3;");
        Due.due("the only one told", x.whisper(0, 0, 0), 35);
        x = Due.of("well w 5 0; well d 0 0; man a w 0; man b d 9; secret s 3 a b; secret t 2 b; thirst 1; fills = 0;");
        Due.due("both know it", x.whisper(0, 0, 0), 5);
        Due.due("one of two", x.whisper(1, 1, 0), 25);
        x.days(1);
        Due.due("a alone is left", x.count(5), 1);
        Due.due("he knows the one, the other nobody", x.well(0, 0), 35);
        Due.due("that HOLD", x.well(0, 3), 1);
        x = Due.of("well w 5 0; man a w 9; secret s 3 a; thirst 1; fills = 0;");
        x.whisper(0, 0, 0);
        x.days(1);
        Due.due("nobody is alive", x.count(5), 0);
        Due.due("nothing HOLDS", x.well(0, 0), 5);
        Due.due("KNOWN", x.secret(0, 1), 0);
    }

    private static void roundedDown() {
        Due.sentence("HEAVY times 10 by KNOWN, rounded down, deeper. DEEP: ROCK and all that HOLDS in it.");
        int[] heavies = {1, 2, 5, 7, 98, 99};
        String knowers = "";
        for (int known = 1; known <= 6; known++) {
            knowers += " " + "abcefg".charAt(known - 1);
            for (int heavy : heavies) {
                SecretWells x = Due.of(SEVEN + "secret s " + heavy + knowers + ";");
                Due.due(heavy + " times 10 by " + known, x.whisper(0, 0, 0), 100 + (int) Math.floor(heavy * 10.0 / known));
                Due.due("makes deeper", x.secret(0, 3), (int) Math.floor(heavy * 10.0 / known));
            }
        }
        StringBuilder eight = new StringBuilder("well w 999 999; man a w 0; man b w 0; fills = 999;");
        for (char c = 'c'; c < 'k'; c++) {
            eight.append("secret ").append(c).append(" 99 a;");
        }
        SecretWells x = Due.of(eight.toString());
        for (int s = 0; s < 8; s++) {
            Due.due("all eight", x.whisper(0, s, 0), 999 + 990 * (s + 1));
        }
        x.days(9);
        Due.due("WATER to the brim", x.well(0, 1), 8919);
    }

    private static void oneWellAtMost() {
        Due.sentence("A SECRET is whispered into one WELL at most: the last one.");
        SecretWells x = Due.of("well u 1 0; well v 2 0; well w 3 0; man a u 0; man b u 0; secret s 4 a b; secret t 5 a;");
        Due.due("-2: none", x.secret(1, 2), -2);
        int[] deep = {51, 52, 53};
        for (int w = 0; w < 3; w++) {
            Due.due("whisper into " + w, x.whisper(0, 1, w), deep[w]);
            Due.due("the WELL", x.secret(1, 2), w);
            for (int other = 0; other < 3; other++) {
                Due.due("whispered into " + other, x.well(other, 2), other == w ? 2 : 0);
                Due.due("DEEP " + other, x.well(other, 0), other == w ? deep[w] : other + 1);
            }
        }
        Due.due("back into the first", x.drill(0, 1, 0), 51);
        Due.due("DEEP of the last", x.well(2, 0), 3);
    }

    // ---- A DAY

    private static void fill() {
        Due.sentence("(1) WELL by WELL: WATER is more by what FILLS tells, as much as the WELL is DEEP at most.");
        int[] fills = {0, 1, 29, 30, 31, 999};
        int[] water = {20, 21, 49, 50, 50, 50};
        for (int i = 0; i < fills.length; i++) {
            SecretWells x = Due.of("well w 50 20; fills = " + fills[i] + ";");
            x.days(1);
            Due.due("WATER by FILLS " + fills[i], x.well(0, 1), water[i]);
        }
        SecretWells x = Due.of("well a 0 0; well b 999 999; well c 999 0; fills = 9999;");
        x.days(1);
        Due.due("no ROCK", x.well(0, 1), 0);
        Due.due("full", x.well(1, 1), 999);
        Due.due("filled", x.well(2, 1), 999);
        x = Due.of("well w 5 5; man a w 0; man b w 0; secret s 2 a; fills = 30;");
        x.whisper(0, 0, 0);
        x.days(1);
        Due.due("as DEEP as by the SECRET", x.well(0, 1), 25);
    }

    private static void drink() {
        Due.sentence("if there is so much WATER, it is gone, and his THIRST is 0; else he drinks what there is, THIRST is 1 more");
        int[] wants = {5, 5, 5, 5, 0, 0, 99, 99, 99};
        int[] water = {4, 5, 6, 0, 0, 1, 98, 99, 100};
        int[] left = {0, 0, 1, 0, 0, 1, 0, 0, 1};
        int[] thirst = {1, 0, 0, 1, 0, 0, 1, 0, 0};
        for (int i = 0; i < wants.length; i++) {
            SecretWells x = Due.of("well w 500 " + water[i] + "; man m w " + wants[i] + "; fills = 0;");
            x.days(1);
            Due.due("WATER " + water[i] + " wanted " + wants[i], x.well(0, 1), left[i]);
            Due.due("THIRST of " + water[i] + " wanted " + wants[i], x.man(0, 2), thirst[i]);
        }
        SecretWells x = Due.of("well w 9 0; man m w 5; fills = if day < 2 then 4 else 9;");
        int[] rows = {1, 2, 0, 0};
        for (int day = 0; day < 4; day++) {
            x.days(1);
            Due.due("THIRST behind DAY " + day, x.man(0, 2), rows[day]);
        }
        Due.sentence("(2) MAN by MAN, who is alive: wants what DRINKS tells, from his WELL");
        x = Due.of("well v 9 9; well w 9 9; man a w 5; man b w 5; man c v 5; man e w 4; fills = 0;");
        x.days(1);
        int[] thirsts = {0, 1, 0, 1};
        for (int m = 0; m < 4; m++) {
            Due.due("THIRST of " + m, x.man(m, 2), thirsts[m]);
        }
        Due.due("his WELL alone", x.well(0, 1), 4);
        Due.due("b drank the 4 that there were", x.well(1, 1), 0);
        x = Due.of("well w 9 4; man a w 5; man b w 5; fills = 6; thirst 1;");
        x.days(1);
        Due.due("b is dead", x.count(5), 1);
        x.days(1);
        Due.due("the dead do not drink: 6 - 5", x.well(0, 1), 1);
    }

    private static void die() {
        Due.sentence("THIRST is 1 more: as told or more: he dies.");
        for (int told : new int[] {1, 2, 3, 98, 99}) {
            SecretWells x = Due.of("well w 9 0; man m w 1; fills = 0; thirst " + told + ";");
            x.days(told - 1);
            Due.due("one less than " + told, x.man(0, 0), 1);
            Due.due("his THIRST", x.man(0, 2), told - 1);
            Due.due("in one DAY", x.manIn(0, 1, 0), 0);
            x.days(1);
            Due.due("as told: " + told, x.man(0, 0), 0);
            Due.due("alive", x.count(5), 0);
        }
        SecretWells x = Due.of("well w 9 0; man m w 2; fills = if day < 2 then 0 else if day < 3 then 2 else 0; thirst 3;");
        x.days(3);
        Due.due("he drank with THIRST 2", x.man(0, 2), 0);
        x.days(2);
        Due.due("again 2", x.man(0, 2), 2);
        Due.due("alive", x.man(0, 0), 1);
        x.days(1);
        Due.due("3 at last", x.man(0, 0), 0);
        x = Due.of("well w 9 5; man a w 9; man b w 5; fills = 0; thirst 1;");
        x.days(1);
        Due.due("who dies has drunk what there was", x.count(5), 0);
    }

    private static void deathWithinADay() {
        Due.sentence("(2) MAN by MAN, who is alive: wants what DRINKS tells, from his WELL");
        String men = "well w 10 0; well d 0 0; man a d 9; man b w 0; man c w 0; secret s 2 a; thirst 1; fills = if which < 1 then 30 else 0;";
        SecretWells x = Due.of(men + "drinks = if which < 1 then 9 else if which < 2 then deep + 15 else deep;");
        Due.due("DEEP", x.whisper(0, 0, 0), 30);
        Due.due("b wants", x.man(1, 4), 45);
        x.days(1);
        Due.due("a alone is dead: b wanted 25, c the 5 that were left and more", x.count(5), 2);
        Due.sentence("(4) WATER is no more than its WELL is DEEP then; it is the next day.");
        x = Due.of(men + "drinks = if which < 1 then 9 else if which < 2 then 25 else 0;");
        x.whisper(0, 0, 0);
        x.days(1);
        Due.due("b had 25, though DEEP was 10 then", x.man(1, 2), 0);
        Due.due("WATER", x.well(0, 1), 5);
        x = Due.of(men + "drinks = if which < 1 then 9 else if which < 2 then 15 else 0;");
        x.whisper(0, 0, 0);
        x.days(1);
        Due.due("of 15 left 10 stay", x.well(0, 1), 10);
        Due.due("DEEP", x.well(0, 0), 10);
    }

    private static final String HEAR = "well w 90 90; man a w 0; man b w 0; man c w 0; secret s 5 a; secret t 6 b; tie a b; tie b c; fills = 0;";

    private static void tellTies() {
        Due.sentence("(3) TIE by TIE, that is not cut, between two alive, SECRET by SECRET, that the first one knew ahead of (3) "
            + "and the other one does not");
        SecretWells x = Due.of(HEAR + "tells = 100;");
        x.cut(0, true);
        x.days(3);
        Due.due("TIE 0 is cut", x.man(1, 3), 2);
        Due.due("TIE 1 is not", x.man(2, 3), 2);
        x.cut(0, false);
        x.days(1);
        Due.due("tied again", x.man(1, 3), 3);
        x = Due.of(HEAR + "tells = 0;");
        x.days(100);
        Due.due("TELLS 0: never", x.man(1, 3), 2);
        String dry = "well w 90 90; well d 0 0; man a d 9; man b w 0; secret s 5 a; secret t 5 b; tie a b; tie b a; tells = 100; fills = 0;";
        x = Due.of(dry + "thirst 1;");
        x.days(1);
        Due.due("who died in (2) does not tell", x.man(1, 3), 2);
        Due.due("who died in (2) is not told", x.man(0, 3), 1);
        x.days(1);
        Due.due("the dead do not tell", x.man(1, 3), 2);
        x = Due.of(dry + "thirst 2;");
        x.days(1);
        Due.due("alive he tells", x.man(1, 3), 3);
        Due.due("alive he is told", x.man(0, 3), 3);
    }

    private static void knewAhead() {
        Due.sentence("that the first one knew ahead of (3) and the other one does not");
        SecretWells x = Due.of(HEAR + "tells = 100;");
        x.days(1);
        Due.due("a to b", x.man(1, 3), 3);
        Due.due("b to c: only what b knew ahead", x.man(2, 3), 2);
        x.days(1);
        Due.due("b to c on the next DAY", x.man(2, 3), 3);
        x = Due.of("well w 90 90; man a w 0; man b w 0; secret s 5 a; secret t 5 a; secret u 5; tie b a; tie a b; tells = know * 20;");
        Due.due("b knows nothing", x.tells(0, 0), 0);
        Due.due("a knows two", x.tells(1, 0), 40);
    }

    private static void waterBehindADay() {
        Due.sentence("(4) WATER is no more than its WELL is DEEP then; it is the next day.");
        SecretWells x = Due.of("well w 50 90; man a w 1; man b w 1; man c w 1; secret s 9 a; tie a b; tie b c; tells = 100; fills = 99;");
        Due.due("day", x.count(4), 0);
        x.whisper(0, 0, 0);
        x.days(1);
        Due.due("it is the next day", x.count(4), 1);
        Due.due("DEEP by two", x.well(0, 0), 95);
        Due.due("WATER", x.well(0, 1), 95);
        x.days(1);
        Due.due("DEEP by all", x.well(0, 0), 50);
        Due.due("WATER", x.well(0, 1), 50);
        Due.due("day", x.count(4), 2);
    }

    // ---- LAWS

    private static void fillsIs(String law, int want) {
        Due.due("FILLS " + law, Due.of("well w 999 0; fills = " + law + ";").well(0, 5), want);
    }

    private static void cases() {
        Due.sentence("LAWS: the E of the first if that holds (one less than the other), else the last one;");
        fillsIs("if 1 < 2 then 5 else 6", 5);
        fillsIs("if 2 < 2 then 5 else 6", 6);
        fillsIs("if 3 < 2 then 5 else 6", 6);
        fillsIs("if 0 - 1 < 0 then 5 else 6", 5);
        fillsIs("if 0 < 0 - 1 then 5 else 6", 6);
        String ifs = "if day < 1 then 11 else if day < 2 then 12 else if day < 3 then 13 else if day < 4 then 14 else 15";
        SecretWells x = Due.of("well w 999 0; fills = " + ifs + ";");
        for (int day = 0; day < 6; day++) {
            Due.due("on DAY " + day, x.well(0, 5), Math.min(15, 11 + day));
            x.days(1);
        }
        fillsIs("if 1 < 2 then 5 else if 1 < 2 then 6 else 7", 5);
        fillsIs("2 + 3 * 4 - 10 / 3", 11);
        fillsIs("20 - 5 - 3", 12);
        fillsIs("40 / 4 / 2 * 3", 15);
        fillsIs("20 - (5 - 3)", 18);
        fillsIs("((((((7)))))) * ((((((3))))))", 21);
        fillsIs("(1 + 2 * (3 + 4 * (5 + 6 * (7 + 8 * (9 - 2 * 3))))) / 5", 307);
        fillsIs("1" + Due.times(195, "+1"), 196);
    }

    private static void wraps() {
        Due.sentence("ints of 32 bits that wrap");
        String least = "2048 * 1024 * 1024";
        fillsIs(least, 0);
        fillsIs(least + " - 1", 999);
        fillsIs("(" + least + " - 1) / 9999 / 999", 214);
        fillsIs("(" + least + " - 1 + 1) / 9999 / 999 + 300", 86);
        fillsIs("if " + least + " < 0 then 5 else 6", 5);
        fillsIs("if 0 < " + least + " - 1 then 5 else 6", 5);
        fillsIs("if " + least + " - 1 < " + least + " then 5 else 6", 6);
        fillsIs("if " + least + " < " + least + " - 1 then 5 else 6", 5);
        fillsIs("4096 * 1024 * 1024 + 7", 7);
        fillsIs("(" + least + " - 1) + (" + least + " - 1) + 9", 7);
        fillsIs("0 - 2 - (" + least + " - 1)", 999);
        fillsIs("0 - 1 - (" + least + " - 1)", 0);
        fillsIs("0 - " + least + " - 1", 999);
        fillsIs("9999 * 9999 * 9999 / 9999 / 9999 + 17", 7);
        fillsIs("9999 * 9999 * 43 / 9999", 417);
        fillsIs(least + " / (0 - 1) / 9999 / 999 + 300", 86);
    }

    private static void towardsZero() {
        Due.sentence("/ rounded towards 0;");
        fillsIs("7 / 2", 3);
        fillsIs("(0 - 7) / 2 + 10", 7);
        fillsIs("7 / (0 - 2) + 10", 7);
        fillsIs("(0 - 7) / (0 - 2)", 3);
        fillsIs("(0 - 1) / 2 + 5", 5);
        fillsIs("1 / 9999", 0);
        fillsIs("0 / 5 + 3", 3);
    }

    private static void byZero() {
        Due.sentence("a LAW in which something that is looked at is divided by 0 is 0.");
        fillsIs("5 / 0", 0);
        fillsIs("0 / 0 + 3", 0);
        fillsIs("5 / 0 + 7", 0);
        fillsIs("7 + 5 / (1 - 1)", 0);
        fillsIs("0 * (1 / (3 - 3)) + 5", 0);
        fillsIs("7 - 5 / (4096 * 1024 * 1024)", 0);
        fillsIs("if 1 / 0 < 2 then 5 else 6", 0);
        fillsIs("if 1 < 2 / 0 then 5 else 6", 0);
        fillsIs("if 1 < 2 then 5 / 0 else 6", 0);
        fillsIs("if 2 < 1 then 5 / 0 else 6", 6);
        fillsIs("if 1 < 2 then 5 else 6 / 0", 5);
        fillsIs("if 2 < 1 then 5 else 6 / 0", 0);
        fillsIs("if 1 < 2 then 5 else if 1 / 0 < 2 then 3 else 4", 5);
        fillsIs("if 2 < 1 then 5 else if 1 / 0 < 2 then 3 else 4", 0);
        fillsIs("if 2 < 1 then 5 / 0 else if 1 < 2 then 3 else 4 / 0", 3);
        fillsIs("9 / dry + 4", 0);
        SecretWells x = Due.of("well w 9 0; man m w 5; drinks = 9 / dry + 1; fills = 0;");
        Due.due("no THIRST to divide by", x.man(0, 4), 0);
        x = Due.of("well w 9 0; man m w 5; drinks = if day < 1 then 9 else 9 / dry + 1; fills = 0;");
        x.days(1);
        Due.due("THIRST 1 to divide by", x.man(0, 4), 10);
    }

    private static final String MANY = "well u 7 3; well w 40 30; well d 0 0; man a u 0; man b w 0; man c w 0; man e d 9;"
        + "secret r 3 a b e; secret s 8 b; secret t 4 a b c e; secret f 5 false b; secret g 2 a; tie a b; tie e c; tie b a; thirst 2;";

    private static SecretWells many(String law) {
        SecretWells x = Due.of(MANY + "fills = " + law + "; drinks = " + law + "; tells = " + law + ";");
        x.whisper(1, 1, 1);
        x.whisper(1, 2, 1);
        x.whisper(1, 3, 1);
        return x;
    }

    private static void variablesOfFills() {
        Due.sentence("deep: the WELL's (FILLS; DRINKS, TELLS: the WELL of who drinks, tells); wet: its WATER; "
            + "dry: THIRST of who drinks, tells (FILLS 0);");
        Due.due("deep", many("deep").well(1, 5), 120);
        Due.due("deep", many("deep").well(0, 5), 7);
        Due.due("deep", many("deep").well(2, 5), 0);
        Due.due("wet", many("wet").well(1, 5), 30);
        Due.due("wet", many("wet").well(2, 5), 0);
        Due.due("heavy", many("heavy + 5").well(1, 5), 5);
        Due.due("which", many("which").well(0, 5), 0);
        Due.due("which", many("which").well(2, 5), 2);
        SecretWells x = Due.of("well d 9 0; man a d 9; man b d 9; man c d 0; fills = if dry < 1 then with else 77; drinks = 9 - which * 4; thirst 1;");
        Due.due("dry", x.well(0, 5), 3);
        x.days(1);
        Due.due("with: who are alive", x.well(0, 5), Integer.bitCount(x.well(0, 4)));
        Due.due("somebody died", Integer.bitCount(x.well(0, 4)) < 3, true);
        x = Due.of("well w 90 0; man a w 5; man b w 0; secret s 7 a; tie a b; fills = if day < 3 then 0 else 10 * dry + heavy; drinks = 50 + heavy;"
            + "tells = if day < 3 then 0 else 10 * dry + heavy;");
        x.days(3);
        Due.due("TELLS has both: 30 + 7", x.tells(0, 0), 37);
        Due.due("FILLS has neither, whatever was asked ahead", x.well(0, 5), 0);
        x.tells(0, 0);
        Due.due("DRINKS has no heavy, whatever was asked ahead", x.man(0, 4), 50);
        Due.due("FILLS has no dry, whatever was asked ahead", x.well(0, 5), 0);
        x.days(2);
        Due.due("nothing came of them", x.well(0, 1), 0);
        Due.sentence("know: how many SECRETS they know just then (FILLS: how many HOLD in it);");
        Due.due("of three whispered one HOLDS", many("know").well(1, 5), 1);
        Due.due("none", many("know").well(0, 5), 0);
        Due.due("with", many("with").well(1, 5), 2);
        Due.due("with", many("with").well(2, 5), 1);
        Due.due("day", many("day").well(1, 5), 0);
    }

    private static void variablesOfDrinks() {
        Due.sentence("heavy: of the SECRET (TELLS; else 0); with: how many alive drink from that WELL; which: the number of the WELL, "
            + "of who drinks, of the TIE.");
        int[] deep = {7, 99, 99, 0};
        int[] wet = {3, 30, 30, 0};
        int[] know = {3, 4, 1, 2};
        int[] with = {1, 2, 2, 1};
        for (int m = 0; m < 4; m++) {
            Due.due("deep", many("deep").man(m, 4), deep[m]);
            Due.due("wet", many("wet").man(m, 4), wet[m]);
            Due.due("know", many("know").man(m, 4), know[m]);
            Due.due("with", many("with").man(m, 4), with[m]);
            Due.due("which", many("which").man(m, 4), m);
            Due.due("heavy", many("heavy + 6").man(m, 4), 6);
            Due.due("day", many("day").man(m, 4), 0);
        }
        SecretWells x = Due.of("well d 0 0; man a d 3; drinks = dry + 1; thirst 9;");
        Due.due("dry", x.man(0, 4), 1);
        x.days(1);
        Due.due("dry", x.man(0, 4), 2);
        x.days(3);
        Due.due("dry", x.man(0, 4), 5);
    }

    private static void variablesOfTells() {
        Due.sentence("heavy: of the SECRET (TELLS; else 0); with: how many alive drink from that WELL; which: the number of the WELL, "
            + "of who drinks, of the TIE.");
        int[] heavy = {3, 8, 4, 5, 2};
        for (int s = 0; s < 5; s++) {
            Due.due("heavy", many("heavy").tells(0, s), heavy[s]);
        }
        int[] deep = {7, 0, 100};
        int[] wet = {3, 0, 30};
        int[] know = {3, 2, 4};
        int[] with = {1, 1, 2};
        for (int tie = 0; tie < 3; tie++) {
            Due.due("deep of who tells", many("deep").tells(tie, 0), deep[tie]);
            Due.due("wet of who tells", many("wet").tells(tie, 0), wet[tie]);
            Due.due("know of who tells", many("know").tells(tie, 0), know[tie]);
            Due.due("with of who tells", many("with").tells(tie, 0), with[tie]);
            Due.due("which", many("which").tells(tie, 0), tie);
        }
        SecretWells x = Due.of("well w 9 9; well d 0 0; man a d 3; man b w 0; secret s 1; tie a b; tie b a; tells = dry * 10 + day; thirst 9;");
        x.days(3);
        Due.due("dry of who tells", x.tells(0, 0), 33);
        Due.due("dry of who tells", x.tells(1, 0), 3);
    }

    private static void heldTo() {
        Due.sentence("FILLS held to 0 .. 999, TELLS to 0 .. 100, DRINKS to 0 .. 99.");
        String[] laws = {"0 - 9999", "0 - 1", "0", "1", "98", "99", "100", "101", "998", "999", "1000", "9999"};
        int[] fills = {0, 0, 0, 1, 98, 99, 100, 101, 998, 999, 999, 999};
        for (int i = 0; i < laws.length; i++) {
            SecretWells x = many(laws[i]);
            Due.due("FILLS " + laws[i], x.well(0, 5), fills[i]);
            Due.due("TELLS " + laws[i], x.tells(0, 0), Math.min(100, fills[i]));
            Due.due("DRINKS " + laws[i], x.man(0, 4), Math.min(99, fills[i]));
        }
        SecretWells x = Due.of("well v 50 30; well w 400 150; man a v 0; man b w 0; fills = 0 - 5; drinks = if which < 1 then 0 - 5 else 150;");
        x.days(1);
        Due.due("nothing comes of it below 0", x.well(0, 1), 30);
        Due.due("he wants 99", x.well(1, 1), 51);
    }

    // ---- LOT

    /** On a DAY, by a TIE and a SECRET: a TELLS of just LOT does not tell it, one more does. */
    private static void lotIs(int seed, int day, int tie, int secret) {
        int lot = Due.lot(100, seed, 128 * day + 8 * tie + secret);
        StringBuilder text = new StringBuilder("well w 9 9; man a w 0; man b w 0; seed " + seed + ";" + Due.times(12, "tie a b;"));
        for (int s = 0; s < 8; s++) {
            text.append("secret s").append((char) ('a' + s)).append(s == secret ? " 1 a;" : " 1;");
        }
        for (int more = 0; more < 2; more++) {
            SecretWells x = Due.of(text + "tells = " + (lot + more) + ";");
            for (int t = 0; t < 12; t++) {
                x.cut(t, true);
            }
            for (int gone = 0; gone < day; gone += 100) {
                x.days(Math.min(100, day - gone));
            }
            x.cut(tie, false);
            x.days(1);
            Due.due("LOT " + lot + " of SEED " + seed + ", DAY " + day + ", TIE " + tie + ", SECRET " + secret, x.man(1, 3), more << secret);
        }
    }

    private static void lots() {
        Due.sentence("if LOT 100 of the SEED and 128 * the day and 8 * the TIE's number and the SECRET's is less than TELLS tells");
        for (int tie = 0; tie < 12; tie++) {
            lotIs(0, 0, tie, tie % 8);
            lotIs(77, 3, tie, (tie + 5) % 8);
        }
        for (int day : new int[] {0, 1, 2, 99, 100, 101, 700, 3000}) {
            lotIs(0, day, 0, 0);
            lotIs(9999, day, 11, 7);
        }
        Due.sentence("the rest of h, moved 1 bit down likewise, by n (32 bits that wrap).");
        for (int seed = 1; seed < 9999; seed += 311) {
            lotIs(seed, seed % 5, seed % 12, seed % 8);
        }
        Due.sentence("FILLS held to 0 .. 999, TELLS to 0 .. 100, DRINKS to 0 .. 99.");
        SecretWells x = Due.of("well w 9 9; man a w 0; man b w 0; secret s 1 a; tie a b; tells = if day < 99 then 0 else 100;");
        Due.due("by TELLS 100 whatever LOT is", x.odds(1, 0, 100, 20), 20);
        Due.due("by TELLS 0 never", x.odds(1, 0, 99, 20), 0);
    }

    // ---- promises 10 to 15

    private static void days() {
        Due.sentence("n DAYS (0 .. 100; 0 is no thing done) go by: which it is; NONE, and nothing happens: no such n.");
        for (int n : new int[] {-1, -2, 101, 102, 200, Due.MIN, Due.MAX}) {
            Due.still("days(" + n + ")", Due::rich, x -> x.days(n), -1);
        }
        Due.still("days(0)", Due::rich, x -> x.days(0), 2);
        SecretWells x = Due.of(Due.VILLAGE);
        Due.due("days(0)", x.days(0), 0);
        Due.due("nothing to undo", x.undo(), false);
        Due.due("days(1)", x.days(1), 1);
        Due.due("days(0)", x.days(0), 1);
        Due.due("days(99)", x.days(99), 100);
        Due.due("days(100)", x.days(100), 200);
        Due.due("three things", x.count(9), 3);
        Due.due("the day", x.count(4), 200);
        x = new SecretWells();
        Due.due("days(100) of nothing told", x.days(100), 100);
    }

    /** VILLAGE behind four DAYS: cid is dead. */
    private static SecretWells without() {
        SecretWells x = Due.of(Due.VILLAGE);
        x.whisper(0, 0, 0);
        x.days(4);
        Due.due("cid is dead", x.count(5), 3);
        return x;
    }

    private static void whisper() {
        Due.sentence("WHISPERS: how DEEP the WELL is then; -2, and nothing happens: he is dead, does not know it, it is whispered into it; "
            + "NONE: no such ones.");
        Due.still("he is dead", SecretWellsDayBounds::without, x -> x.whisper(2, 2, 0), -2);
        Due.still("he does not know it", SecretWellsDayBounds::without, x -> x.whisper(1, 0, 1), -2);
        Due.still("it is whispered into it", SecretWellsDayBounds::without, x -> x.whisper(0, 0, 0), -2);
        Due.still("all three", SecretWellsDayBounds::without, x -> x.whisper(2, 0, 0), -2);
        Due.still("dead, and no such WELL", SecretWellsDayBounds::without, x -> x.whisper(2, 2, 2), -1);
        Due.still("does not know it, and no such WELL", SecretWellsDayBounds::without, x -> x.whisper(1, 0, -1), -1);
        Due.still("dead, and no such SECRET", SecretWellsDayBounds::without, x -> x.whisper(2, 4, 0), -1);
        SecretWells x = without();
        Due.due("into another one", x.whisper(0, 0, 1), 70);
        Due.due("by another one who knows it", x.tell(0, 1, 0), true);
        Due.due("whisper(1, 0, 0)", x.whisper(1, 0, 0), 20);
        Due.due("three whispers", x.count(7), 3);
        Due.due("whispered by another one", x.whisper(0, 0, 0), -2);
        Due.sentence("WATER is no more than DEEP behind each.");
        x = Due.of("well u 5 5; well v 5 5; man m u 0; man n u 0; secret s 2 m; secret t 1 m; fills = 99; salt 0;");
        x.whisper(0, 0, 0);
        Due.due("WATER is not more by it", x.well(0, 1), 5);
        x.days(1);
        Due.due("full", x.well(0, 1), 25);
        Due.due("whispered into another one", x.whisper(0, 0, 1), 25);
        Due.due("WATER of the one it left", x.well(0, 1), 5);
        x.days(1);
        Due.due("full", x.well(1, 1), 25);
        Due.due("drilled into another one", x.drill(0, 0, 0), 25);
        Due.due("WATER of the one it left", x.well(1, 1), 5);
        x.days(1);
        Due.due("told to all", x.tell(0, 1, 0), true);
        Due.due("WATER", x.well(0, 1), 5);
    }

    private static void drill() {
        Due.sentence("DRILLED: how DEEP the WELL is then; -2, NONE as whisper().");
        Due.still("he is dead", SecretWellsDayBounds::without, x -> x.drill(2, 2, 0), -2);
        Due.still("he does not know it", SecretWellsDayBounds::without, x -> x.drill(1, 0, 1), -2);
        Due.still("it is whispered into it", SecretWellsDayBounds::without, x -> x.drill(0, 0, 0), -2);
        Due.still("dead, and no such WELL", SecretWellsDayBounds::without, x -> x.drill(2, 2, 2), -1);
        Due.still("does not know it, and no such MAN", SecretWellsDayBounds::without, x -> x.drill(3, 0, 1), -1);
        Due.sentence("WATER of which is SALT less (0 at least) then");
        int[] water = {0, 6, 7, 8, 20};
        int[] left = {0, 0, 0, 1, 13};
        for (int i = 0; i < water.length; i++) {
            SecretWells x = Due.of("well u 20 " + water[i] + "; well v 9 9; man m v 0; secret s 2 m; salt 7;");
            Due.due("drill", x.drill(0, 0, 0), 40);
            Due.due("WATER of " + water[i], x.well(0, 1), left[i]);
            Due.due("WATER of the other WELL", x.well(1, 1), 9);
            Due.due("whispers", x.count(7), 1);
            Due.due("whispered", x.well(0, 2), 1);
        }
        SecretWells x = Due.of("well u 20 20; well v 9 9; man m v 0; secret s 2 m; salt 7;");
        x.whisper(0, 0, 0);
        Due.due("whisper() leaves the WATER", x.well(0, 1), 20);
    }

    private static void tell() {
        Due.sentence("TELLS it to another one: true; false, and nothing happens: one is dead, he does not know it, the other one does, no such ones.");
        Due.still("he is dead", SecretWellsDayBounds::without, x -> Due.bit(x.tell(2, 0, 2)), 0);
        Due.still("the other one is dead", SecretWellsDayBounds::without, x -> Due.bit(x.tell(0, 2, 0)), 0);
        Due.still("he does not know it", SecretWellsDayBounds::without, x -> Due.bit(x.tell(1, 0, 0)), 0);
        Due.still("neither knows it", SecretWellsDayBounds::without, x -> Due.bit(x.tell(1, 0, 2)), 0);
        Due.still("the other one does", SecretWellsDayBounds::without, x -> Due.bit(x.tell(0, 1, 1)), 0);
        Due.still("himself", SecretWellsDayBounds::without, x -> Due.bit(x.tell(0, 0, 0)), 0);
        Due.still("himself, what he does not know", SecretWellsDayBounds::without, x -> Due.bit(x.tell(1, 1, 0)), 0);
        SecretWells x = without();
        Due.due("tell(0, 1, 0)", x.tell(0, 1, 0), true);
        Due.due("who know it", x.secret(0, 0), 3);
        Due.due("once", x.tell(0, 1, 0), false);
        x = Due.of(Due.VILLAGE);
        x.cut(0, true);
        Due.due("without a TIE, too", x.tell(0, 2, 0), true);
        Due.due("a FALSE one, too", x.tell(2, 1, 2), true);
    }

    private static void go() {
        Due.sentence("Drinks from another WELL: true; false, and nothing happens: he does, he is dead, no such ones.");
        Due.still("he does", SecretWellsDayBounds::without, x -> Due.bit(x.go(0, 0)), 0);
        Due.still("he is dead", SecretWellsDayBounds::without, x -> Due.bit(x.go(2, 0)), 0);
        Due.still("he is dead, and did", SecretWellsDayBounds::without, x -> Due.bit(x.go(2, 1)), 0);
        SecretWells x = without();
        Due.due("go(0, 1)", x.go(0, 1), true);
        Due.due("he does now", x.go(0, 1), false);
        Due.due("who drink", x.well(0, 4), 2);
        Due.due("who drink", x.well(1, 4), 1);
        Due.due("back", x.go(0, 0), true);
    }

    private static void cut() {
        Due.sentence("A TIE is cut (or tied again): true; false, and nothing happens: it is so, no such one.");
        Due.still("it is not cut", Due::rich, x -> Due.bit(x.cut(0, false)), 0);
        Due.still("it is cut", Due::rich, x -> Due.bit(x.cut(1, true)), 0);
        for (int tie : new int[] {-1, 2, 32, 33, Due.MIN, Due.MAX}) {
            Due.still("cut(" + tie + ", true)", Due::rich, x -> Due.bit(x.cut(tie, true)), 0);
            Due.still("cut(" + tie + ", false)", Due::rich, x -> Due.bit(x.cut(tie, false)), 0);
        }
        SecretWells x = Due.rich();
        Due.due("cut(0, true)", x.cut(0, true), true);
        Due.due("bits", x.count(6), 3);
        Due.due("cut(1, false)", x.cut(1, false), true);
        Due.due("bits", x.count(6), 1);
        x = without();
        Due.due("between the dead, too", x.cut(1, true), true);
        x = Due.of("well w 1 1; man a w 1; man b w 1;" + Due.times(12, "tie a b;"));
        for (int tie = 11; tie >= 0; tie--) {
            Due.due("cut(" + tie + ", true)", x.cut(tie, true), true);
        }
        Due.due("all twelve", x.count(6), 4095);
    }

    // ---- promise 16

    private static void undo() {
        Due.sentence("The last thing done (days, whisper, tell, drill, go, cut) is undone: true; false: there is none (the last 40 can be).");
        for (int things : new int[] {0, 1, 39, 40, 41, 42, 79, 80, 81, 100}) {
            SecretWells x = Due.of(Due.VILLAGE);
            for (int i = 0; i < things; i++) {
                x.days(1);
            }
            int can = Math.min(40, things);
            Due.due("can be undone of " + things, x.count(9), can);
            for (int i = 1; i <= can; i++) {
                Due.due("undo() " + i + " of " + things, x.undo(), true);
                Due.due("the day", x.count(4), things - i);
                Due.due("can be undone", x.count(9), can - i);
            }
            Due.due("one more undo() of " + things, x.undo(), false);
            Due.due("the day", x.count(4), things - can);
        }
        SecretWells x = Due.of(Due.VILLAGE);
        for (int i = 0; i < 45; i++) {
            x.days(1);
        }
        for (int i = 0; i < 10; i++) {
            x.undo();
        }
        for (int i = 0; i < 15; i++) {
            x.days(2);
        }
        Due.due("45 - 10 + 30", x.count(4), 65);
        Due.due("40 of them", x.count(9), 40);
        for (int i = 1; i <= 40; i++) {
            Due.due("undo()", x.undo(), true);
            Due.due("the day behind " + i, x.count(4), i <= 15 ? 65 - 2 * i : 50 - i);
        }
        Due.due("undo()", x.undo(), false);
        Due.still("undo() of none", () -> Due.of(Due.VILLAGE), y -> Due.bit(y.undo()), 0);
    }

    private static void undone(String call, Due.Call done) {
        SecretWells x = Due.rich();
        Due.due(call + " is done", done.on(x) >= 0, true);
        Due.due("it can be undone", x.count(9), Due.rich().count(9) + 1);
        Due.due("undo()", x.undo(), true);
        Due.due("behind undo() of " + call, Due.probed(x), Due.probed(Due.rich()));
    }

    private static void undoEach() {
        Due.sentence("The last thing done (days, whisper, tell, drill, go, cut) is undone: true; false: there is none (the last 40 can be).");
        undone("days(1)", x -> x.days(1));
        undone("days(100)", x -> x.days(100));
        undone("whisper", x -> x.whisper(0, 0, 1));
        undone("whisper", x -> x.whisper(2, 2, 0));
        undone("tell", x -> x.tell(2, 0, 2) ? 1 : -1);
        undone("drill", x -> x.drill(0, 3, 0));
        undone("go", x -> x.go(0, 0) ? 1 : -1);
        undone("cut", x -> x.cut(0, true) ? 1 : -1);
        undone("cut", x -> x.cut(1, false) ? 1 : -1);
        SecretWells x = Due.of(Due.VILLAGE);
        x.cut(1, true);
        x.whisper(0, 0, 0);
        x.cut(0, true);
        x.undo();
        Due.due("TIE 1 is cut", x.count(6), 2);
        Due.due("one whisper", x.count(7), 1);
        x.undo();
        Due.due("TIE 1 is cut", x.count(6), 2);
        Due.due("no whisper", x.count(7), 0);
    }

    private static void noThingDone() {
        Due.sentence("The last thing done (days, whisper, tell, drill, go, cut) is undone: true; false: there is none (the last 40 can be).");
        SecretWells x = Due.of(Due.VILLAGE);
        x.days(1);
        x.days(0);
        x.hold(0);
        x.note(0, 0, 1);
        x.note(0, 0, 2);
        x.forget();
        x.note(0, 0, 3);
        x.feed(0, 0, 0, 0, 0);
        x.back(1);
        x.read();
        x.feed(0, 0, 0, 0, 0);
        x.whisper(1, 0, 0);
        x.rain(1, 5, 0);
        Due.due("one thing", x.count(9), 1);
        Due.due("undo()", x.undo(), true);
        Due.due("the day", x.count(4), 0);
        Due.due("TOLD stays", x.count(10), 1);
        Due.due("the tape stays", x.count(8), 20);
        Due.due("SLOTS stay", x.count(11), 1);
        Due.due("undo()", x.undo(), false);
        Due.due("what was held stays", x.restore(0), true);
        Due.due("the day", x.count(4), 1);
    }

    // ---- promises 6 to 9, what is now

    private static void now() {
        Due.sentence("4 what DRINKS tells now (0, if he is dead).");
        SecretWells x = without();
        Due.due("who is dead", x.man(2, 4), 0);
        Due.due("who is alive", x.man(1, 4), 6);
        x = Due.of("well d 0 0; man a d 3; drinks = 50; thirst 1;");
        Due.due("alive", x.man(0, 4), 50);
        x.days(1);
        Due.due("dead", x.man(0, 4), 0);
        Due.sentence("4 who drink from it, alive (bits)");
        Due.due("the dead do not", x.well(0, 4), 0);
        Due.sentence("-2: one of them is dead; NONE: no such ones.");
        x = without();
        Due.due("to the dead", x.tells(0, 0), -2);
        Due.due("from the dead", x.tells(1, 0), -2);
        Due.due("the dead, and no such SECRET", x.tells(0, 4), -1);
        Due.due("no such TIE", x.tells(2, 0), -1);
        Due.sentence("What TELLS tells now for a TIE and a SECRET (that the first one may know or not)");
        x = Due.of(Due.VILLAGE);
        Due.due("he knows it", x.tells(0, 1), 100);
        Due.due("he does not", x.tells(1, 1), 100);
        Due.due("the other one does, too", x.tells(0, 3), 100);
        x.cut(0, true);
        Due.due("a cut one", x.tells(0, 1), 100);
        Due.sentence("2 the WELL it is whispered into (-2: none), 3 how much it makes deeper now (0: it HOLDS nowhere).");
        Due.due("none", x.secret(0, 2), -2);
        Due.due("nowhere", x.secret(0, 3), 0);
        x.whisper(0, 0, 0);
        x.whisper(0, 3, 1);
        Due.due("WELL 0", x.secret(0, 2), 0);
        Due.due("deeper", x.secret(0, 3), 60);
        Due.due("WELL 1", x.secret(3, 2), 1);
        Due.due("it HOLDS nowhere", x.secret(3, 3), 0);
    }
}
