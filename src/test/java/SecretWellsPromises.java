/** Each promise with answers worked out by hand from the document: ordinary inputs, edges, wrong inputs. */
public final class SecretWellsPromises {
    /** Two wells, three men: old (60 deeper) is ann's alone, two (20 deeper) ann's and bob's, all is everybody's. */
    private static final String VILLAGE = "well pit 20 50; well low 10 5; man ann pit 5; man bob pit 6; man cid low 8;"
        + "secret old 6 ann; secret two 4 ann bob; secret lie 9 false cid; secret all 3 ann bob cid;"
        + "tie ann cid; tie cid bob; fills = 3; tells = if heavy < 5 then 100 else 0; thirst 3; salt 4;";
    /** Nobody thirsts; a tells b by LOT. */
    private static final String PAIR = "well w 90 90; man a w 0; man b w 0; secret s 5 a; tie a b;";

    private static int wrong = 0;
    private static String promise = "";

    public static void main(String[] args) {
        aNewObject();
        feedAndBack();
        readSyntax();
        readRoom();
        readMeaning();
        readReplaces();
        wellManSecret();
        tells();
        laws();
        days();
        whisperAndDrill();
        tell();
        goAndCut();
        undo();
        wellInManIn();
        dryByFirst();
        rain();
        silenceReach();
        holdsRings();
        quiet();
        oddsDeaths();
        worth();
        notes();
        holdRestore();
        count();
        System.out.println(wrong == 0 ? "all promises are kept" : wrong + " answers are not as due");
        if (wrong != 0) {
            System.exit(1);
        }
    }

    private static void due(String call, long got, long want) {
        if (got != want) {
            wrong++;
            System.out.println(promise + ": " + call + " answered " + got + ", due is " + want);
        }
    }

    private static void due(String call, boolean got, boolean want) {
        due(call, got ? 1 : 0, want ? 1 : 0);
    }

    private static void feed(SecretWells x, String text) {
        StringBuilder padded = new StringBuilder(text);
        while (padded.length() % 20 != 0) {
            padded.append(' ');
        }
        for (int i = 0; i < padded.length(); i += 20) {
            int[] v = new int[5];
            for (int k = 0; k < 20; k++) {
                v[k / 4] = v[k / 4] << 8 | padded.charAt(i + k) & 255;
            }
            x.feed(v[0], v[1], v[2], v[3], v[4]);
        }
        x.back(padded.length() - text.length());
    }

    private static SecretWells of(String text) {
        SecretWells x = new SecretWells();
        feed(x, text);
        due("read() of " + text, x.read(), 0);
        return x;
    }

    /** Reads a text in an object that has one: with a FAULT, that one stays. */
    private static void fault(String text, int number, int place) {
        SecretWells x = of("well old 7 7;");
        x.hold(1);
        x.days(1);
        x.note(0, 0, 7);
        feed(x, text);
        due("read() of " + text, x.read(), number);
        due("place() of " + text, x.place(), place);
        due("the tape behind " + text, x.count(8), 0);
        due("SLOTS behind " + text, x.count(11), number == 0 ? 0 : 1);
        due("to undo behind " + text, x.count(9), number == 0 ? 0 : 1);
        due("TOLD behind " + text, x.count(10), number == 0 ? 0 : 1);
        due("the day behind " + text, x.count(4), number == 0 ? 0 : 1);
        if (number != 0) {
            due("the old well behind " + text, x.well(0, 0), 7);
        }
    }

    private static String times(int n, String word) {
        return word.repeat(n);
    }

    private static void aNewObject() {
        promise = "1";
        SecretWells x = new SecretWells();
        for (int what = 0; what < 14; what++) {
            due("count(" + what + ")", x.count(what), 0);
        }
        due("place()", x.place(), -1);
        due("well(0, 0)", x.well(0, 0), -1);
        due("man(0, 0)", x.man(0, 0), -1);
        due("secret(0, 0)", x.secret(0, 0), -1);
        due("undo()", x.undo(), false);
        due("restore(0)", x.restore(0), false);
        due("rings()", x.rings(), 0);
        due("NONE", SecretWells.NONE, -1);
        due("days(2)", x.days(2), 2);
        due("hold(0)", x.hold(0), true);
    }

    private static void feedAndBack() {
        promise = "2, 3";
        SecretWells x = new SecretWells();
        due("back(0)", x.back(0), 0);
        due("back(1)", x.back(1), -1);
        for (int i = 1; i <= 100; i++) {
            due("feed", x.feed(0x20202020, 0x20202020, 0x20202020, 0x20202020, 0x20202020), 20 * i);
        }
        due("feed beyond", x.feed(0, 0, 0, 0, 0), -1);
        due("count(8)", x.count(8), 2000);
        due("back(1)", x.back(1), 1999);
        due("feed beyond by one", x.feed(0, 0, 0, 0, 0), -1);
        due("back(2000)", x.back(2000), -1);
        due("back(-1)", x.back(-1), -1);
        due("back(min)", x.back(Integer.MIN_VALUE), -1);
        due("back(19)", x.back(19), 1980);
        due("feed to the brim", x.feed(0x20202020, 0x20202020, 0x20202020, 0x20202020, 0x77656c6c), 2000);
        due("read()", x.read(), 1);
        due("place()", x.place(), 2000);
        due("count(8)", x.count(8), 0);
        due("feed", x.feed(0x73616c74, 0x20313b20, 0x20202020, 0x20202020, 0x2020207a), 20);
        due("back(1)", x.back(1), 19);
        due("read()", x.read(), 0);
        due("place()", x.place(), -1);
        due("feed", x.feed(0x73616c74, 0x20313b20, 0x20202020, 0x20202020, 0x2020207a), 20);
        due("read()", x.read(), 1);
        due("place()", x.place(), 19);
    }

    private static void readSyntax() {
        promise = "4, 5: SYNTAX";
        fault("", 0, -1);
        fault(" \t\r\n ", 0, -1);
        fault("well a 1 1", 1, 10);
        fault("well a 1 1  ", 1, 12);
        fault("well", 1, 4);
        fault("well a 1 1;x", 1, 11);
        fault("a", 1, 0);
        fault(";", 1, 0);
        fault("well abcdefgh 1 1;", 0, -1);
        fault("well abcdefghi 1 1;", 1, 5);
        fault("well a 12345 1;", 1, 7);
        fault("well a 0009 1;", 0, -1);
        fault("well a1 1;", 0, -1);
        fault("well a1a1;", 1, 7);
        fault("wella 1 1;", 1, 0);
        fault("well a 1 1 1;", 1, 11);
        fault("well day 1 1;", 1, 5);
        fault("well which 1 1;", 1, 5);
        fault("well false 1 1;", 1, 5);
        fault("well a 1 ;", 1, 9);
        fault("Well a 1 1;", 1, 0);
        fault("well a 1 1;\u00ff", 1, 11);
        fault("well a 1 1;\0", 1, 11);
        fault("well a 1 -1;", 1, 9);
        fault("false", 1, 0);
        fault("if", 1, 0);
        fault("secret s 1 false false;", 1, 17);
        fault("secret s 1 2;", 1, 11);
        fault("secret s false;", 1, 9);
        fault("tie a;", 1, 5);
        fault("thirst ;", 1, 7);
        fault("salt 1 1;", 1, 7);
        fault("seed x;", 1, 5);
        fault("fills 1;", 1, 6);
        fault("fills = ;", 1, 8);
        fault("fills = 1 + ;", 1, 12);
        fault("fills = -1;", 1, 8);
        fault("fills = 1 2;", 1, 10);
        fault("fills = (1;", 1, 10);
        fault("fills = (1 < 2);", 1, 11);
        fault("fills = 1);", 1, 9);
        fault("fills = ();", 1, 9);
        fault("fills = x;", 1, 8);
        fault("fills = 1 < 2;", 1, 10);
        fault("fills = if 1 then 2 else 3;", 1, 13);
        fault("fills = if 1 < 2 else 3;", 1, 17);
        fault("fills = if 1 < 2 then 3;", 1, 23);
        fault("fills = if 1 < 2 then 3 else;", 1, 28);
        fault("fills = if 1 < 2 then if 1 < 2 then 3 else 4 else 5;", 1, 22);
        fault("fills = if 1 < 2 then 3 else if 2 < 1 then 4 else 5;", 0, -1);
        fault("fills=day+deep-wet*dry/know+heavy-with*(which);", 0, -1);
        fault("well a 1 1; well a 1 1; x", 1, 24);
    }

    private static void readRoom() {
        promise = "4, 5: ROOM";
        String wells = "well a 1 1; well b 1 1; well c 1 1; well d 1 1; ";
        fault(wells, 0, -1);
        fault(wells + "well", 2, 48);
        fault(wells + "well ; x", 2, 48);
        fault(wells + "x well", 1, 48);
        String men = "well w 1 1; ";
        for (char c = 'a'; c < 'h'; c++) {
            men += "man m" + c + " w 1; ";
        }
        fault(men, 0, -1);
        fault(men + "man mx w 1;", 2, men.length());
        String secrets = "";
        for (char c = 'a'; c < 'i'; c++) {
            secrets += "secret s" + c + " 1;";
        }
        fault(secrets, 0, -1);
        fault(secrets + " secret sx 1;", 2, secrets.length() + 1);
        String ties = "well w 1 1; man a w 1; man b w 1;" + times(12, "tie a b;");
        fault(ties, 0, -1);
        fault(ties + "tie a b;", 2, ties.length());
        fault("fills = ((((((1))))));", 0, -1);
        fault("fills = (((((((1)))))));", 2, 14);
        fault("fills = ((((((1)))))) + ((((((2)))))) ;", 0, -1);
        fault("fills = (((((((", 2, 14);
        String four = "fills=" + times(4, "if 1<2 then 3 else ");
        fault(four + "4;", 0, -1);
        fault(four + "if 1<2 then 3 else 4;", 2, four.length());
        fault(four + "4;tells=" + times(4, "if 1<2 then 3 else ") + "1;", 0, -1);
        String long400 = "fills=1" + times(198, "+1") + ";";
        fault(long400, 0, -1);
        fault(long400 + "salt", 2, long400.length());
        fault(long400 + "x", 1, long400.length());
        fault(long400 + "#", 1, long400.length());
        fault("fills=1" + times(198, "+1"), 1, 403);
        fault("fills=1" + times(199, "+1") + ";", 2, 404);
        fault("fills=1" + times(250, "+1") + ";", 2, 404);
    }

    private static void readMeaning() {
        promise = "4, 5: TWICE, NAME, WRONG";
        String two = "well w 1 1; man a w 1; man b w 1; ";
        fault("well a 1 1; well a 1 1;", 3, 17);
        fault("well a 1 1; man a a 1;", 3, 16);
        fault("well a 1 1; secret a 1;", 3, 19);
        fault(two + "secret b 1;", 3, 41);
        fault("secret s 1; secret s 0;", 3, 19);
        fault("secret s 0; secret s 1;", 5, 9);
        fault(two + "tie a a;", 3, 40);
        fault(two + "tie w w;", 4, 38);
        fault(two + "tie a w;", 4, 40);
        fault(two + "tie a b; tie b a; tie a b;", 0, -1);
        fault(two + "secret s 1 a b a;", 3, 49);
        fault(two + "secret s 1 a w;", 4, 47);
        fault(two + "secret s 1 s;", 4, 45);
        fault("man m w 1; well w 1 1;", 4, 6);
        fault("man m m 1;", 4, 6);
        fault(two + "man c a 1;", 4, 40);
        fault("well w 1 1; tie a b; man a w 1; man b w 1;", 4, 16);
        fault("well w 1000 1;", 5, 7);
        fault("well w 999 999;", 0, -1);
        fault("well w 0 1000;", 5, 9);
        fault("well w 1 1; man m w 100;", 5, 20);
        fault("well w 1 1; man m w 99;", 0, -1);
        fault("secret s 0;", 5, 9);
        fault("secret s 100;", 5, 9);
        fault("secret s 99 false;", 0, -1);
        fault("thirst 0;", 5, 7);
        fault("thirst 100;", 5, 7);
        fault("thirst 99; thirst 1;", 0, -1);
        fault("salt 100;", 5, 5);
        fault("salt 0; salt 99;", 0, -1);
        fault("seed 9999;", 0, -1);
        fault("fills = 9999;", 0, -1);
        fault("thirst 0; well w 1000 1; well w 1 1;", 5, 7);
        fault("secret s 1 x; thirst 0;", 4, 11);
    }

    private static void readReplaces() {
        promise = "4: in place of the one ahead";
        SecretWells x = of(VILLAGE);
        x.whisper(0, 0, 0);
        x.cut(0, true);
        x.days(9);
        x.hold(2);
        x.note(0, 1, 80);
        feed(x, "well w 30 40; man m w 5; secret s 2 m;");
        due("read()", x.read(), 0);
        due("count(0)", x.count(0), 1);
        due("count(1)", x.count(1), 1);
        due("count(2)", x.count(2), 1);
        due("count(3)", x.count(3), 0);
        due("the day", x.count(4), 0);
        due("alive", x.count(5), 1);
        due("cut", x.count(6), 0);
        due("whispers", x.count(7), 0);
        due("to undo", x.count(9), 0);
        due("TOLD", x.count(10), 0);
        due("held", x.count(11), 0);
        due("WATER", x.well(0, 1), 30);
        due("undo()", x.undo(), false);
        due("restore(2)", x.restore(2), false);
        due("FILLS if not told", x.well(0, 5), 10);
        due("SALT if not told", x.drill(0, 0, 0), 50);
        due("WATER", x.well(0, 1), 20);
        x = of("well w 9 0; man m w 9; fills = 0; seed 5; thirst 2; thirst 4; fills = 3; fills = 1; salt 3; salt 9;");
        due("the last FILLS", x.well(0, 5), 1);
        due("the last THIRST", x.first(1), 4);
        x = of("well w 9 0; man m w 9; fills = 0;");
        due("THIRST if not told", x.first(1), 9);
    }

    private static void wellManSecret() {
        promise = "6, 7, 8";
        SecretWells x = of(VILLAGE);
        due("well(0, 0)", x.well(0, 0), 20);
        due("well(0, 1): no more than DEEP", x.well(0, 1), 20);
        due("well(1, 1)", x.well(1, 1), 5);
        due("well(0, 4)", x.well(0, 4), 3);
        due("well(0, 5)", x.well(0, 5), 3);
        due("well(0, 6)", x.well(0, 6), -1);
        due("well(0, -1)", x.well(0, -1), -1);
        due("well(2, 0)", x.well(2, 0), -1);
        due("well(-1, 0)", x.well(-1, 0), -1);
        due("man(1, 0)", x.man(1, 0), 1);
        due("man(2, 1)", x.man(2, 1), 1);
        due("man(0, 3)", x.man(0, 3), 11);
        due("man(1, 4)", x.man(1, 4), 6);
        due("man(1, 5)", x.man(1, 5), -1);
        due("man(3, 0)", x.man(3, 0), -1);
        due("man(-1, 0)", x.man(-1, 0), -1);
        due("secret(1, 0)", x.secret(1, 0), 3);
        due("secret(1, 1)", x.secret(1, 1), 2);
        due("secret(1, 2)", x.secret(1, 2), -2);
        due("secret(1, 3)", x.secret(1, 3), 0);
        due("secret(1, 4)", x.secret(1, 4), -1);
        due("secret(4, 0)", x.secret(4, 0), -1);
        for (int s = 0; s < 4; s++) {
            x.whisper(s == 2 ? 2 : 0, s, 0);
        }
        due("DEEP: 20 + 60 + 20", x.well(0, 0), 100);
        due("whispered into it", x.well(0, 2), 15);
        due("that HOLD: neither the FALSE one nor what all know", x.well(0, 3), 3);
        due("secret(1, 3)", x.secret(1, 3), 20);
        due("secret(2, 3)", x.secret(2, 3), 0);
        due("secret(3, 3)", x.secret(3, 3), 0);
        due("secret(3, 2)", x.secret(3, 2), 0);
        x.days(6);
        due("all dead", x.count(5) & 4, 0);
        due("man(2, 0)", x.man(2, 0), 0);
        due("a dead one's THIRST", x.man(2, 2), 3);
        due("a dead one wants", x.man(2, 4), 0);
        due("a dead one knows", x.man(2, 3) & 8, 8);
        due("who know it, dead or not", x.secret(3, 0), 7);
        x = of("well w 10 0; man a w 0; man b w 99; man c w 99; secret s 7 a b c; secret t 5 b; thirst 1; fills = 1;");
        due("whisper(0, 0, 0)", x.whisper(0, 0, 0), 10);
        due("whisper(1, 1, 0)", x.whisper(1, 1, 0), 60);
        due("days(1)", x.days(1), 1);
        due("alive", x.count(5), 1);
        due("the only one alive knows it: it HOLDS", x.well(0, 0), 80);
        due("well(0, 3)", x.well(0, 3), 1);
        due("known by the dead alone", x.secret(1, 1), 0);
        x = of("well w 10 0; man a w 0; man b w 0; man c w 0; man d w 0; secret s 5 a b c;");
        due("50 by 3, rounded down", x.whisper(2, 0, 0), 26);
    }

    private static void tells() {
        promise = "9";
        SecretWells x = of(VILLAGE);
        due("tells(0, 0)", x.tells(0, 0), 0);
        due("tells(0, 2): he need not know it", x.tells(0, 2), 0);
        due("tells(1, 1): he need not know it", x.tells(1, 1), 100);
        due("tells(2, 0)", x.tells(2, 0), -1);
        due("tells(-1, 0)", x.tells(-1, 0), -1);
        due("tells(0, 4)", x.tells(0, 4), -1);
        due("tells(0, -1)", x.tells(0, -1), -1);
        x.cut(0, true);
        due("tells(0, 1) of a cut one", x.tells(0, 1), 100);
        x.days(4);
        due("cid is dead", x.man(2, 0), 0);
        due("tells(0, 1)", x.tells(0, 1), -2);
        due("tells(1, 1)", x.tells(1, 1), -2);
        due("tells(1, 9)", x.tells(1, 9), -1);
    }

    /** A law as FILLS of well 1 on day 0; DRINKS of man 1; TELLS of tie 1 for secret 1. */
    private static void law(String law, int fills, int drinks, int tells) {
        SecretWells x = of("well v 1 1; well w 40 30; man a v 1; man b w 1; man c w 1; secret r 3 a b; secret s 8 b; tie a b; tie b a;"
            + "fills = " + law + "; drinks = " + law + "; tells = " + law + ";");
        x.whisper(1, 1, 1);
        due("FILLS " + law, x.well(1, 5), fills);
        due("DRINKS " + law, x.man(1, 4), drinks);
        due("TELLS " + law, x.tells(1, 1), tells);
    }

    private static void laws() {
        promise = "6, 7, 9: LAWS";
        law("9999", 999, 99, 100);
        law("0 - 1", 0, 0, 0);
        law("100 - day", 100, 99, 100);
        law("deep", 120, 99, 100);
        law("deep / 2", 60, 60, 60);
        law("wet", 30, 30, 30);
        law("dry + 7", 7, 7, 7);
        law("know", 1, 2, 2);
        law("heavy", 0, 0, 8);
        law("with", 2, 2, 2);
        law("which", 1, 1, 1);
        law("2 + 3 * 4 - 10 / 3", 11, 11, 11);
        law("(2 + 3) * 4", 20, 20, 20);
        law("20 - 5 - 3", 12, 12, 12);
        law("40 / 4 / 2 * 3", 15, 15, 15);
        law("8 - (0 - 7) / 2", 11, 11, 11);
        law("9999 * 9999 * 9999 / 9999 / 9999 + 7", 0, 0, 0);
        law("9999 * 9999 * 9999 / 9999 / 9999 + 17", 7, 7, 7);
        law("9999 * 9999 * 43 / 9999", 417, 99, 100);
    }

    private static void lawsByCases() {
        law("if 1 < 2 then 5 else 6", 5, 5, 5);
        law("if 2 < 2 then 5 else 6", 6, 6, 6);
        law("if 2 < 1 then 5 else if heavy < 1 then 7 else 8", 7, 7, 8);
        law("5 / 0 + 7", 0, 0, 0);
        law("if 1 / 0 < 2 then 5 else 6", 0, 0, 0);
        law("if 2 < 1 then 5 / 0 else 6", 6, 6, 6);
        law("if 1 < 2 then 5 else 6 / 0", 5, 5, 5);
        law("if 1 < 2 then 5 else if 1 / 0 < 2 then 3 else 4", 5, 5, 5);
        law("0 * (1 / (1 - 1)) + 5", 0, 0, 0);
    }

    private static void days() {
        lawsByCases();
        promise = "10";
        SecretWells x = of(VILLAGE);
        due("days(-1)", x.days(-1), -1);
        due("days(101)", x.days(101), -1);
        due("days(0)", x.days(0), 0);
        due("nothing done", x.count(9), 0);
        due("days(1)", x.days(1), 1);
        due("pit: 20 (full) - 5 - 6", x.well(0, 1), 9);
        due("low: 5 + 3 - 8", x.well(1, 1), 0);
        due("cid: THIRST", x.man(2, 2), 0);
        due("cid hears two", x.man(2, 3), 14);
        due("bob hears nothing: cid knew it not ahead", x.man(1, 3), 10);
        due("days(1)", x.days(1), 2);
        due("pit: 9 + 3 - 5 - 6", x.well(0, 1), 1);
        due("cid: THIRST", x.man(2, 2), 1);
        due("days(1)", x.days(1), 3);
        due("ann has 4 of 5", x.man(0, 2), 1);
        due("bob has nothing", x.man(1, 2), 1);
        due("days(1)", x.days(1), 4);
        due("cid dies", x.count(5), 3);
        due("days(100)", x.days(100), 104);
        due("all dead", x.count(5), 0);
        due("one thing each", x.count(9), 5);
        x = of("well w 9 9; man a w 5; man b w 5; fills = 5;");
        x.days(1);
        due("ann drinks ahead of bob", x.man(1, 2), 1);
        due("she does not thirst", x.man(0, 2), 0);
        due("bob drank what there was", x.well(0, 1), 0);
        x.days(1);
        due("5 for ann", x.man(1, 2), 2);
        x = of("well w 50 90; man a w 1; man b w 1; man c w 1; secret s 9 a; tie a b; tie b c; tells = 100; fills = 99;");
        x.whisper(0, 0, 0);
        due("DEEP", x.well(0, 0), 140);
        x.days(1);
        due("only bob hears on the first DAY", x.secret(0, 0), 3);
        due("WATER falls with DEEP", x.well(0, 1), 95);
        x.days(1);
        due("all know", x.well(0, 1), 50);
        x = of(PAIR + "tells = 40;");
        x.days(2);
        due("LOT 52, 72", x.man(1, 3), 0);
        x.days(1);
        due("LOT 30", x.man(1, 3), 1);
        x = of(PAIR + "tells = 30;");
        x.days(3);
        due("LOT 30 is not less than 30", x.man(1, 3), 0);
        x.days(1);
        due("LOT 11", x.man(1, 3), 1);
        x = of("well w 90 90; man a w 0; man b w 0; man c w 0; secret p 1; secret q 1; secret s 5 b; tie a c; tie b c; tells = 1; seed 7;");
        x.days(2);
        due("LOT 38, 75 of SEED 7, TIE 1, SECRET 2", x.man(2, 3), 0);
        x.days(1);
        due("LOT 0", x.man(2, 3), 4);
    }

    private static void whisperAndDrill() {
        promise = "11, 13";
        SecretWells x = of(VILLAGE);
        due("whisper(3, 0, 0)", x.whisper(3, 0, 0), -1);
        due("whisper(-1, 0, 0)", x.whisper(-1, 0, 0), -1);
        due("whisper(0, 4, 0)", x.whisper(0, 4, 0), -1);
        due("whisper(0, 0, 2)", x.whisper(0, 0, 2), -1);
        due("whisper(1, 0, 2): NONE ahead of -2", x.whisper(1, 0, 2), -1);
        due("whisper(1, 0, 0): does not know it", x.whisper(1, 0, 0), -2);
        due("nothing happened", x.count(9), 0);
        due("whisper(0, 0, 0)", x.whisper(0, 0, 0), 80);
        due("whisper(0, 0, 0)", x.whisper(0, 0, 0), -2);
        due("whisper(0, 0, 1)", x.whisper(0, 0, 1), 70);
        due("the last WELL alone", x.well(0, 0), 20);
        due("well(0, 2)", x.well(0, 2), 0);
        due("count(7)", x.count(7), 2);
        due("drill(0, 0, 1)", x.drill(0, 0, 1), -2);
        due("drill(2, 0, 0)", x.drill(2, 0, 0), -2);
        due("drill(0, 0, 2)", x.drill(0, 0, 2), -1);
        due("drill(7, 0, 0)", x.drill(7, 0, 0), -1);
        due("drill(0, 9, 0)", x.drill(0, 9, 0), -1);
        due("drill(0, 0, 0)", x.drill(0, 0, 0), 80);
        due("SALT 4 less", x.well(0, 1), 16);
        due("drill(0, 1, 1)", x.drill(0, 1, 1), 30);
        due("WATER", x.well(1, 1), 1);
        due("drill(2, 2, 1)", x.drill(2, 2, 1), 30);
        due("0 at least", x.well(1, 1), 0);
        due("count(7)", x.count(7), 5);
        x.days(10);
        due("cid is dead", x.whisper(2, 2, 0), -2);
        due("cid is dead", x.drill(2, 2, 0), -2);
        x = of("well a 5 5; well b 5 5; man m a 0; man n a 0; secret s 2 m; fills = 99;");
        x.whisper(0, 0, 0);
        x.days(1);
        due("full", x.well(0, 1), 25);
        due("whisper(0, 0, 1)", x.whisper(0, 0, 1), 25);
        due("the WELL it left has no more WATER than it is DEEP", x.well(0, 1), 5);
    }

    private static void tell() {
        promise = "12";
        SecretWells x = of(VILLAGE);
        x.whisper(0, 0, 1);
        x.days(1);
        due("tell(1, 2, 0): he does not know it", x.tell(1, 2, 0), false);
        due("tell(0, 1, 1): the other one does", x.tell(0, 1, 1), false);
        due("tell(0, 0, 0)", x.tell(0, 0, 0), false);
        due("tell(0, 3, 0)", x.tell(0, 3, 0), false);
        due("tell(-1, 0, 0)", x.tell(-1, 0, 0), false);
        due("tell(0, 1, 4)", x.tell(0, 1, 4), false);
        due("tell(0, 1, -1)", x.tell(0, 1, -1), false);
        due("count(9)", x.count(9), 2);
        due("tell(0, 1, 0)", x.tell(0, 1, 0), true);
        due("known by two", x.well(1, 0), 40);
        due("man(1, 3)", x.man(1, 3), 11);
        due("tell(1, 2, 0)", x.tell(1, 2, 0), true);
        due("known by all", x.well(1, 0), 10);
        x = of("well w 5 5; man a w 0; man b w 0; secret s 2 a; fills = 99; thirst 1;");
        x.whisper(0, 0, 0);
        x.days(1);
        due("WATER", x.well(0, 1), 25);
        due("tell(0, 1, 0)", x.tell(0, 1, 0), true);
        due("WATER is no more than DEEP", x.well(0, 1), 5);
        x = of("well w 5 5; well v 0 0; man a w 0; man b v 9; secret s 2 a; secret t 2 b; fills = 0; thirst 1;");
        x.days(1);
        due("b is dead", x.count(5), 1);
        due("tell(0, 1, 0)", x.tell(0, 1, 0), false);
        due("tell(1, 0, 1)", x.tell(1, 0, 1), false);
    }

    private static void goAndCut() {
        promise = "14, 15";
        SecretWells x = of(VILLAGE);
        due("go(0, 0): he does", x.go(0, 0), false);
        due("go(0, 2)", x.go(0, 2), false);
        due("go(0, -1)", x.go(0, -1), false);
        due("go(3, 0)", x.go(3, 0), false);
        due("go(2, 0)", x.go(2, 0), true);
        due("who drink", x.well(0, 4), 7);
        due("man(2, 1)", x.man(2, 1), 0);
        due("cut(0, false): it is so", x.cut(0, false), false);
        due("cut(2, true)", x.cut(2, true), false);
        due("cut(-1, true)", x.cut(-1, true), false);
        due("cut(0, true)", x.cut(0, true), true);
        due("cut(0, true)", x.cut(0, true), false);
        due("count(6)", x.count(6), 1);
        x.days(1);
        due("cid hears nothing", x.man(2, 3), 12);
        due("cut(0, false)", x.cut(0, false), true);
        x.days(1);
        due("cid hears it", x.man(2, 3), 14);
        due("count(9)", x.count(9), 5);
        x.days(20);
        due("he is dead", x.go(0, 1), false);
        due("between the dead", x.cut(1, true), true);
    }

    private static void undo() {
        promise = "16";
        SecretWells x = of(VILLAGE);
        due("undo()", x.undo(), false);
        x.whisper(0, 0, 0);
        x.drill(1, 1, 0);
        x.go(2, 0);
        x.tell(0, 1, 0);
        x.cut(1, true);
        x.days(30);
        x.days(0);
        due("count(9)", x.count(9), 6);
        due("undo() of days", x.undo(), true);
        due("the day", x.count(4), 0);
        due("alive", x.count(5), 7);
        due("WATER", x.well(0, 1), 16);
        due("undo() of cut", x.undo(), true);
        due("cut", x.count(6), 0);
        due("DEEP: 20 + 30 + 20", x.well(0, 0), 70);
        due("undo() of tell", x.undo(), true);
        due("DEEP", x.well(0, 0), 100);
        due("undo() of go", x.undo(), true);
        due("well of cid", x.man(2, 1), 1);
        due("undo() of drill", x.undo(), true);
        due("WATER", x.well(0, 1), 20);
        due("whispers", x.count(7), 1);
        due("undo() of whisper", x.undo(), true);
        due("DEEP", x.well(0, 0), 20);
        due("whispers", x.count(7), 0);
        due("undo()", x.undo(), false);
        for (int i = 1; i <= 45; i++) {
            x.days(1);
        }
        due("count(9)", x.count(9), 40);
        for (int i = 1; i <= 40; i++) {
            due("undo()", x.undo(), true);
            due("the day", x.count(4), 45 - i);
        }
        due("a 41st undo()", x.undo(), false);
        due("days(1)", x.days(1), 6);
        due("undo()", x.undo(), true);
        due("undo()", x.undo(), false);
    }

    private static void wellInManIn() {
        promise = "17, 18";
        SecretWells x = of(VILLAGE);
        due("wellIn(0, 0, 1)", x.wellIn(0, 0, 1), 20);
        due("wellIn(0, 1, 1)", x.wellIn(0, 1, 1), 9);
        due("wellIn(0, 2, 1)", x.wellIn(0, 2, 1), 1);
        due("wellIn(0, 200, 0)", x.wellIn(0, 200, 0), 20);
        due("wellIn(0, 200, 1): all dead", x.wellIn(0, 200, 1), 20);
        due("wellIn(0, 201, 0)", x.wellIn(0, 201, 0), -1);
        due("wellIn(0, -1, 0)", x.wellIn(0, -1, 0), -1);
        due("wellIn(0, 1, 2)", x.wellIn(0, 1, 2), -1);
        due("wellIn(0, 1, -1)", x.wellIn(0, 1, -1), -1);
        due("wellIn(2, 1, 0)", x.wellIn(2, 1, 0), -1);
        due("manIn(2, 3, 0)", x.manIn(2, 3, 0), 1);
        due("manIn(2, 4, 0)", x.manIn(2, 4, 0), 0);
        due("manIn(2, 3, 1)", x.manIn(2, 3, 1), 2);
        due("manIn(1, 1, 2)", x.manIn(1, 1, 2), 10);
        due("manIn(2, 1, 2)", x.manIn(2, 1, 2), 14);
        due("manIn(2, 0, 2)", x.manIn(2, 0, 2), 12);
        due("manIn(2, 200, 2)", x.manIn(2, 200, 2), 14);
        due("manIn(0, 1, 3)", x.manIn(0, 1, 3), -1);
        due("manIn(0, 1, -1)", x.manIn(0, 1, -1), -1);
        due("manIn(3, 1, 0)", x.manIn(3, 1, 0), -1);
        due("manIn(0, 201, 0)", x.manIn(0, 201, 0), -1);
        due("manIn(0, -1, 0)", x.manIn(0, -1, 0), -1);
        due("nothing happened: the day", x.count(4), 0);
        due("nothing happened: alive", x.count(5), 7);
        due("nothing happened: undo", x.count(9), 0);
        x.days(1);
        due("from now on", x.wellIn(0, 1, 1), 1);
    }

    private static void dryByFirst() {
        promise = "19, 20";
        SecretWells x = of(VILLAGE);
        due("dryBy(0)", x.dryBy(0), 3);
        due("dryBy(1)", x.dryBy(1), 1);
        due("dryBy(2)", x.dryBy(2), -1);
        due("dryBy(-1)", x.dryBy(-1), -1);
        due("first(0)", x.first(0), 2);
        due("first(1)", x.first(1), 4);
        due("first(2)", x.first(2), -1);
        due("first(-1)", x.first(-1), -1);
        x.days(4);
        due("cid is dead; ann and bob on one DAY", x.first(0), 0);
        due("first(1)", x.first(1), 1);
        due("dryBy(0): it is", x.dryBy(0), 0);
        x.days(9);
        due("nobody is left", x.first(0), -2);
        due("nobody is left", x.first(1), -2);
        due("it fills", x.dryBy(0), -2);
        x = of("well w 200 200; man m w 1; fills = 0; thirst 1;");
        due("behind 200 DAYS", x.dryBy(0), 200);
        due("on the 201st", x.first(0), -2);
        x.days(1);
        due("behind 200 DAYS", x.first(1), 200);
        x = of("well w 201 201; man m w 1; fills = 0; thirst 1;");
        due("not in 200 DAYS", x.dryBy(0), -2);
        x = of("well w 0 0;");
        due("now", x.dryBy(0), 0);
        due("nobody", x.first(1), -2);
    }

    private static void rain() {
        promise = "21, 22";
        SecretWells x = of(VILLAGE);
        due("rain(1, 4, 0)", x.rain(1, 4, 0), 1);
        due("rain(1, 4, 1)", x.rain(1, 4, 1), 3);
        due("rain(1, 4, 2)", x.rain(1, 4, 2), 1);
        due("rainAt(1, 4, 0)", x.rainAt(1, 4, 0), 0);
        due("rain(1, 2, 2): nobody thirsts less by it", x.rain(1, 1, 2), 0);
        due("rainAt(1, 1, 0)", x.rainAt(1, 1, 0), -3);
        due("rainAt(4, 4, 0): FALSE", x.rainAt(4, 4, 0), -3);
        due("rain(0, 4, 0)", x.rain(0, 4, 0), -1);
        due("rain(16, 4, 0)", x.rain(16, 4, 0), -1);
        due("rain(-1, 4, 0)", x.rain(-1, 4, 0), -1);
        due("rain(1, 0, 0)", x.rain(1, 0, 0), -1);
        due("rain(1, 61, 0)", x.rain(1, 61, 0), -1);
        due("rain(1, 60, 0)", x.rain(1, 60, 0), 3);
        due("rain(1, 4, 3)", x.rain(1, 4, 3), -1);
        due("rain(1, 4, -1)", x.rain(1, 4, -1), -1);
        due("rainAt(1, 4, 1)", x.rainAt(1, 4, 1), -1);
        due("rainAt(1, 4, -1)", x.rainAt(1, 4, -1), -1);
        due("rain(15, 4, 0): four may be", x.rain(15, 4, 0), 1);
        due("nothing happened", x.count(7), 0);
        x.whisper(0, 0, 0);
        due("behind a whisper it is left", x.rainAt(1, 4, 0), -3);
        due("rain(1, 4, 2)", x.rain(1, 4, 2), 0);
        x.undo();
        due("behind undo()", x.rainAt(1, 4, 0), 0);
        moreRain();
        rainBehindEach();
    }

    private static void moreRain() {
        SecretWells x = of("secret s 1; secret t 1;");
        due("no WELLS", x.rain(1, 5, 0), -2);
        due("no WELLS", x.rainAt(3, 5, 1), -2);
        due("not so many", x.rainAt(3, 5, 2), -1);
        due("no such SECRET", x.rainAt(4, 5, 0), -1);
        x = of("well w 5 5; secret s 1; secret a 2; secret b 2; secret c 2; secret d 2;");
        due("five", x.rain(31, 5, 0), -1);
        due("five", x.rainAt(31, 5, 0), -1);
        due("nobody knows it", x.rainAt(30, 5, 3), -3);
        // Three wells of 0; two secrets save two of three men, and alike ways go by the first SECRET's WELL.
        x = of("well u 0 0; well v 0 0; well w 0 0; man a u 9; man b v 9; man c w 9; secret s 1 a; secret t 1 b; fills = 9; thirst 1;");
        due("one dies", x.rain(3, 5, 0), 1);
        due("no THIRST", x.rain(3, 5, 1), 0);
        due("two whispers", x.rain(3, 5, 2), 2);
        due("rainAt(3, 5, 0)", x.rainAt(3, 5, 0), 0);
        due("rainAt(3, 5, 1)", x.rainAt(3, 5, 1), 1);
        due("rainAt(2, 5, 0)", x.rainAt(2, 5, 0), 1);
        // Whispered into the first well, it is of more use in the second one; and the other way round.
        x = of("well u 0 0; well v 0 0; man a u 0; man b v 9; secret s 1 a; fills = 9; thirst 1;");
        x.whisper(0, 0, 0);
        due("rain(1, 5, 0)", x.rain(1, 5, 0), 0);
        due("rain(1, 5, 2)", x.rain(1, 5, 2), 1);
        due("rainAt(1, 5, 0)", x.rainAt(1, 5, 0), 1);
        x.go(1, 0);
        x.whisper(0, 0, 1);
        due("rain(1, 5, 2)", x.rain(1, 5, 2), 1);
        due("rainAt(1, 5, 0)", x.rainAt(1, 5, 0), 0);
        x.go(1, 1);
        due("where it is: left", x.rainAt(1, 5, 0), -3);
        rainInOrder();
        // s is known by all, but by the only one alive when the others have died: it HOLDS then.
        x = of("well u 9 9; well v 0 0; man a u 9; man b v 9; secret s 5 a b; fills = 0; thirst 1;");
        due("one dies at once, one later", x.rain(1, 2, 0), 2);
        x = of("well u 9 9; well v 0 0; man a u 5; man b v 9; secret s 5 a b; fills = 20; thirst 2;");
        due("rain(1, 3, 0)", x.rain(1, 3, 0), 1);
        due("rain(1, 3, 2)", x.rain(1, 3, 2), 0);
        // By SEED 0 and TELLS 100 the secret is known by all on the first DAY; whispered, it is of no use then.
        x = of("well w 5 0; man a w 9; man b w 0; secret s 5 a; tie a b; tells = 100; fills = 9; thirst 9;");
        due("THIRST in 2 DAYS", x.rain(1, 2, 1), 1);
        due("THIRST in 1 DAY", x.rain(1, 1, 1), 0);
        x.cut(0, true);
        due("behind a cut", x.rain(1, 2, 1), 0);
    }

    /** The first SECRET is whispered first: where t leaves u ahead of s, the WATER of u is gone before s holds it. */
    private static void rainInOrder() {
        String men = "well u 0 0; well v 0 0; man a u 5; man b v 9; man c u 0;";
        String fills = "fills = if day < 1 then 99 * (1 - which) else 9 * which;";
        SecretWells x = of(men + "secret t 2 a; secret s 1 a b;" + fills);
        due("t into u", x.whisper(0, 0, 0), 20);
        x.days(1);
        due("u has 15 left", x.well(0, 1), 15);
        due("a thirsts", x.rain(3, 1, 1), 1);
        due("t goes to v", x.rainAt(3, 1, 0), 1);
        due("s is left", x.rainAt(3, 1, 1), -3);
        x = of(men + "secret s 1 a b; secret t 2 a;" + fills);
        due("t into u", x.whisper(0, 1, 0), 20);
        x.days(1);
        due("nobody thirsts", x.rain(3, 1, 1), 0);
        due("two whispers", x.rain(3, 1, 2), 2);
        due("s goes to u", x.rainAt(3, 1, 0), 0);
        due("t goes to v", x.rainAt(3, 1, 1), 1);
    }

    /** The same question behind each thing that can be done: never the answer of ahead. */
    private static void rainBehindEach() {
        SecretWells x = of("well w 5 0; well v 20 0; man a w 9; man b w 0; secret s 5 a; secret t 5 a; tie a b; tells = 100; fills = 9; thirst 3;");
        due("rain(1, 2, 1)", x.rain(1, 2, 1), 1);
        x.go(0, 1);
        due("behind go()", x.rain(1, 2, 1), 0);
        x.undo();
        due("behind undo()", x.rain(1, 2, 1), 1);
        x.hold(0);
        x.cut(0, true);
        due("behind cut()", x.rain(1, 2, 1), 0);
        due("behind cut()", x.rain(1, 2, 2), 1);
        x.whisper(0, 1, 0);
        due("behind whisper()", x.rain(1, 2, 2), 0);
        x.undo();
        x.drill(0, 1, 0);
        due("behind drill()", x.rain(1, 2, 2), 0);
        x.tell(0, 1, 1);
        due("behind tell()", x.rain(1, 2, 2), 1);
        x.restore(0);
        due("behind restore()", x.rain(1, 2, 1), 1);
        due("rain(1, 1, 1)", x.rain(1, 1, 1), 0);
        x.days(1);
        due("behind days()", x.rain(1, 1, 1), 2);
        feed(x, "well w 5 0; secret s 5;");
        x.read();
        due("behind read()", x.rain(1, 1, 1), 0);
    }

    private static void silenceReach() {
        promise = "23, 24";
        SecretWells x = of(VILLAGE);
        due("silence(0, 1, 0)", x.silence(0, 1, 0), 1);
        due("silence(0, 1, 1): the least bits", x.silence(0, 1, 1), 1);
        due("silence(0, 0, 0): he knows it", x.silence(0, 0, 0), -2);
        due("silence(2, 0, 0): it cannot come", x.silence(2, 0, 0), 0);
        due("silence(2, 0, 1)", x.silence(2, 0, 1), 0);
        due("silence(2, 1, 1)", x.silence(2, 1, 1), 2);
        due("silence(0, 1, 2)", x.silence(0, 1, 2), -1);
        due("silence(0, 1, -1)", x.silence(0, 1, -1), -1);
        due("silence(4, 1, 0)", x.silence(4, 1, 0), -1);
        due("silence(0, 3, 0)", x.silence(0, 3, 0), -1);
        due("reach(0)", x.reach(0), 7);
        due("reach(2)", x.reach(2), 6);
        due("reach(4)", x.reach(4), -1);
        due("reach(-1)", x.reach(-1), -1);
        x.cut(1, true);
        due("reach(0)", x.reach(0), 5);
        due("silence(0, 1, 0): it is cut", x.silence(0, 1, 0), 0);
        x.days(4);
        due("cid is dead", x.silence(0, 2, 0), -2);
        due("reach(0)", x.reach(0), 1);
        due("only cid knows it", x.reach(2), 0);
        x = of("well w 90 90; man a w 0; man b w 0; man c w 0; man d w 0; secret s 1 a; secret t 1 a b; secret n 1;"
            + "tie a b; tie a c; tie b d; tie c d; tie a b; tie d a;");
        due("silence(0, 3, 0)", x.silence(0, 3, 0), 2);
        due("silence(0, 3, 1): TIES 1, 2", x.silence(0, 3, 1), 6);
        due("silence(0, 1, 1): two alike", x.silence(0, 1, 1), 17);
        due("silence(1, 3, 1)", x.silence(1, 3, 1), 6);
        due("silence(1, 2, 1)", x.silence(1, 2, 1), 2);
        due("nobody knows it", x.silence(2, 3, 0), 0);
        due("nobody knows it", x.reach(2), 0);
        StringBuilder twelve = new StringBuilder("well w 9 9; man a w 0; man b w 0; secret s 1 a;");
        twelve.append(times(12, "tie a b;"));
        x = of(twelve.toString());
        due("twelve", x.silence(0, 1, 0), 12);
        due("twelve", x.silence(0, 1, 1), 4095);
    }

    private static void holdsRings() {
        promise = "25, 26";
        SecretWells x = of(VILLAGE);
        due("holds(0, 1)", x.holds(0, 1), 1);
        due("holds(1, 0)", x.holds(1, 0), 1);
        due("holds(0, 2)", x.holds(0, 2), 0);
        due("holds(0, 0)", x.holds(0, 0), -1);
        due("holds(0, 3)", x.holds(0, 3), -1);
        due("holds(-1, 0)", x.holds(-1, 0), -1);
        due("rings()", x.rings(), 1);
        x.tell(2, 0, 2);
        due("holds(0, 2): a FALSE one", x.holds(0, 2), 1);
        due("rings()", x.rings(), 2);
        x.undo();
        x.cut(0, true);
        x.days(4);
        due("cid is dead", x.count(5), 3);
        due("nobody else alive", x.holds(0, 1), 2);
        due("one is dead", x.holds(0, 2), 0);
        due("rings()", x.rings(), 1);
    }

    private static void quiet() {
        promise = "27";
        SecretWells x = of(VILLAGE);
        due("quiet(0, -1)", x.quiet(0, -1), 1);
        due("quiet(0, 0)", x.quiet(0, 0), 3);
        due("quiet(0, 1)", x.quiet(0, 1), -1);
        due("quiet(1, -1)", x.quiet(1, -1), 2);
        due("quiet(1, 0)", x.quiet(1, 0), 0);
        due("quiet(1, 1)", x.quiet(1, 1), 3);
        due("quiet(1, 2)", x.quiet(1, 2), -1);
        due("quiet(1, -2)", x.quiet(1, -2), -1);
        due("quiet(2, -1)", x.quiet(2, -1), -1);
        due("quiet(-1, 0)", x.quiet(-1, 0), -1);
        x.whisper(0, 0, 1);
        // old is whispered: ann and bob both have two (20 deeper, once). Neither: 10 each; one: 20, he 15; both: 20.
        due("one SECRET for both", x.quiet(0, -1), 3);
        due("quiet(0, 0)", x.quiet(0, 0), 1);
        due("quiet(0, 2)", x.quiet(0, 2), 3);
        x.whisper(0, 1, 1);
        due("nobody may", x.quiet(0, -1), 1);
        due("quiet(0, 0)", x.quiet(0, 0), 0);
        // Alone in his well he gains; the other one, in no well of it, does not want to.
        x = of("well u 10 0; well v 10 0; man a u 0; man b v 0; secret s 1 a; secret t 1 b;");
        due("quiet(0, -1): a gains 10 less 5 or 0", x.quiet(0, -1), 2);
        due("quiet(0, 0)", x.quiet(0, 0), 1);
        due("quiet(0, 1)", x.quiet(0, 1), 3);
        // The heavier one, though t and z make deeper, and the first of s and z: alone a gains 15 and loses 15.
        x = of("well u 0 0; well v 0 0; man a u 0; man b v 0; man c v 0; man d v 0;"
            + "secret s 3 a b; secret t 2 a; secret z 3 a; secret q 1 c; secret r 1 d;");
        due("quiet(0, -1)", x.quiet(0, -1), 3);
        due("quiet(0, 0)", x.quiet(0, 0), 0);
        due("quiet(0, 1)", x.quiet(0, 1), 1);
        due("quiet(0, 2)", x.quiet(0, 2), 15);
        // The only one alive.
        x = of("well u 7 0; man a u 0; secret s 3 a; secret f 9 false a;");
        due("quiet(0, -1)", x.quiet(0, -1), 1);
        due("quiet(0, 0)", x.quiet(0, 0), 1);
    }

    private static void oddsDeaths() {
        promise = "28, 29";
        SecretWells x = of(PAIR + "tells = 40;");
        due("odds(1, 0, 0, 6)", x.odds(1, 0, 0, 6), 0);
        due("odds(1, 0, 1, 6): LOT 52 96 24 75 77 54", x.odds(1, 0, 1, 6), 1);
        due("odds(1, 0, 2, 6)", x.odds(1, 0, 2, 6), 1);
        due("odds(1, 0, 3, 6): 30 70 42 93 26 27", x.odds(1, 0, 3, 6), 4);
        due("odds(1, 0, 3, 1)", x.odds(1, 0, 3, 1), 1);
        due("odds(0, 0, 0, 20): he knows it", x.odds(0, 0, 0, 20), 20);
        due("odds(1, 0, 100, 20)", x.odds(1, 0, 100, 20), 20);
        due("odds(1, 0, 101, 1)", x.odds(1, 0, 101, 1), -1);
        due("odds(1, 0, -1, 1)", x.odds(1, 0, -1, 1), -1);
        due("odds(1, 0, 1, 0)", x.odds(1, 0, 1, 0), -1);
        due("odds(1, 0, 1, 21)", x.odds(1, 0, 1, 21), -1);
        due("odds(2, 0, 1, 1)", x.odds(2, 0, 1, 1), -1);
        due("odds(1, 1, 1, 1)", x.odds(1, 1, 1, 1), -1);
        x = of(PAIR + "tells = 40; seed 2;");
        due("from SEED 2 on: 24 75 77 54", x.odds(1, 0, 1, 4), 1);
        due("from SEED 2 on", x.odds(1, 0, 3, 4), 3);
        x = of(VILLAGE);
        due("deaths(5, 2)", x.deaths(5, 2), 6);
        due("deaths(4, 20)", x.deaths(4, 20), 20);
        due("deaths(0, 3)", x.deaths(0, 3), 0);
        due("deaths(100, 1)", x.deaths(100, 1), 3);
        due("deaths(101, 1)", x.deaths(101, 1), -1);
        due("deaths(-1, 1)", x.deaths(-1, 1), -1);
        due("deaths(1, 0)", x.deaths(1, 0), -1);
        due("deaths(1, 21)", x.deaths(1, 21), -1);
        x.days(4);
        due("who are dead already, too", x.deaths(0, 3), 3);
        due("the dead know what they knew", x.odds(2, 2, 5, 2), 2);
    }

    private static void worth() {
        promise = "30";
        SecretWells x = of(VILLAGE);
        due("whispered nowhere", x.worth(1), 0);
        x.whisper(0, 0, 0);
        x.whisper(0, 1, 0);
        x.whisper(2, 2, 0);
        x.whisper(0, 3, 0);
        due("known by one", x.worth(0), 0);
        due("known by two: 40 - 20", x.worth(1), 20);
        due("FALSE", x.worth(2), 0);
        due("known by all: 30 - 0", x.worth(3), 30);
        due("worth(4)", x.worth(4), -1);
        due("worth(-1)", x.worth(-1), -1);
        x.days(50);
        due("nobody alive knows it", x.worth(1), 0);
    }

    private static void notes() {
        promise = "31 to 35";
        SecretWells x = of(VILLAGE);
        x.whisper(0, 1, 1);
        x.tell(0, 1, 0);
        x.tell(0, 2, 0);
        x.days(3);
        due("note(0, 1, 80): as the text, day 0", x.note(0, 1, 80), 0);
        due("truth(1, -1)", x.truth(1, -1), 8);
        due("truth(1, 0)", x.truth(1, 0), 1);
        due("truth(1, 7)", x.truth(1, 7), 15);
        due("truth(1, 8)", x.truth(1, 8), -1);
        due("truth(1, -2)", x.truth(1, -2), -1);
        due("truth(0, -1)", x.truth(0, -1), 16);
        due("truth(2, -1)", x.truth(2, -1), -1);
        due("truth(-1, -1)", x.truth(-1, -1), -1);
        due("note(1, 6, 100): lie may be true", x.note(1, 6, 100), 1);
        due("truth(2, 0)", x.truth(2, 0), 5);
        due("sure(2, false)", x.sure(2, false), 5);
        due("sure(2, true)", x.sure(2, true), 2);
        due("sure(0, true)", x.sure(0, true), 0);
        due("sure(3, true)", x.sure(3, true), -1);
        due("sure(-1, false)", x.sure(-1, false), -1);
        due("next(1, 0): the first of the halved", x.next(1, 0), 1);
        due("next(1, 1)", x.next(1, 1), 4);
        due("next(2, 0): all alike", x.next(2, 0), 0);
        due("next(2, 1)", x.next(2, 1), 2);
        due("next(2, 2)", x.next(2, 2), -1);
        due("next(2, -1)", x.next(2, -1), -1);
        due("next(3, 0)", x.next(3, 0), -1);
        due("note(0, 0, 21): never so", x.note(0, 0, 21), 2);
        due("truth(3, -1)", x.truth(3, -1), 0);
        due("truth(3, 0)", x.truth(3, 0), -1);
        due("sure(3, true)", x.sure(3, true), 0);
        due("sure(3, false)", x.sure(3, false), 0);
        due("next(3, 0)", x.next(3, 0), -2);
        due("next(3, 7)", x.next(3, 7), -1);
        due("note(2, 0, 0)", x.note(2, 0, 0), -1);
        due("note(-1, 0, 0)", x.note(-1, 0, 0), -1);
        due("note(0, 16, 0)", x.note(0, 16, 0), -1);
        due("note(0, -1, 0)", x.note(0, -1, 0), -1);
        due("note(0, 0, -1)", x.note(0, 0, -1), -1);
        due("note(0, 0, 10000)", x.note(0, 0, 10000), -1);
        due("note(0, 15, 9999)", x.note(0, 15, 9999), 3);
        for (int i = 4; i < 20; i++) {
            due("note", x.note(0, 0, 20), i);
        }
        due("a 21st", x.note(0, 0, 20), -1);
        due("count(10)", x.count(10), 20);
        due("to undo: no thing done", x.count(9), 4);
        due("undo()", x.undo(), true);
        due("TOLD stays", x.count(10), 20);
        due("forget()", x.forget(), 20);
        due("forget()", x.forget(), 0);
        due("truth(1, -1)", x.truth(1, -1), -1);
        due("note(1, 0, 10)", x.note(1, 0, 10), 0);
        due("truth(1, -1)", x.truth(1, -1), 16);
        x = of("secret s 1;");
        due("no WELLS", x.next(0, 0), -2);
        x = of("well w 1 1;");
        due("no SECRETS", x.next(0, 1), -2);
        due("truth(0, 0)", x.truth(0, 0), 0);
        due("truth(0, 1)", x.truth(0, 1), -1);
    }

    private static void holdRestore() {
        promise = "36, 37";
        SecretWells x = of(VILLAGE);
        due("restore(0): nothing is held", x.restore(0), false);
        due("hold(-1)", x.hold(-1), false);
        due("hold(3)", x.hold(3), false);
        x.whisper(0, 0, 1);
        x.cut(1, true);
        x.go(0, 1);
        x.days(1);
        due("hold(1)", x.hold(1), true);
        due("count(11)", x.count(11), 1);
        due("to undo: stays", x.count(9), 4);
        due("hold(1)", x.hold(1), true);
        due("count(11)", x.count(11), 1);
        x.note(0, 0, 20);
        x.days(60);
        x.whisper(1, 1, 1);
        due("all dead", x.count(5), 0);
        due("hold(2)", x.hold(2), true);
        due("count(11)", x.count(11), 2);
        x.feed(0, 0, 0, 0, 0);
        due("restore(1)", x.restore(1), true);
        due("the day", x.count(4), 1);
        due("alive", x.count(5), 7);
        due("cut", x.count(6), 2);
        due("whispers", x.count(7), 1);
        due("the tape stays", x.count(8), 20);
        due("to undo", x.count(9), 0);
        due("TOLD stays", x.count(10), 1);
        due("held", x.count(11), 2);
        due("DEEP", x.well(1, 0), 70);
        due("ann's WELL", x.man(0, 1), 1);
        due("WATER: 5 + 3 - 5, then cid", x.well(1, 1), 0);
        due("cid's THIRST", x.man(2, 2), 1);
        due("undo()", x.undo(), false);
        due("restore(0)", x.restore(0), false);
        due("restore(-1)", x.restore(-1), false);
        due("restore(3)", x.restore(3), false);
        x.days(2);
        due("that stays there", x.restore(1), true);
        due("the day", x.count(4), 1);
        due("restore(2)", x.restore(2), true);
        due("the day", x.count(4), 61);
    }

    private static void count() {
        promise = "38";
        SecretWells x = of(VILLAGE);
        int[] start = {2, 3, 4, 2, 0, 7, 0, 0, 0, 0, 0, 0, 25, 4};
        for (int what = 0; what < 14; what++) {
            due("count(" + what + ")", x.count(what), start[what]);
        }
        due("count(14)", x.count(14), -1);
        due("count(-1)", x.count(-1), -1);
        x.feed(1, 2, 3, 4, 5);
        x.cut(1, true);
        x.drill(0, 0, 0);
        x.whisper(0, 0, 1);
        x.hold(0);
        x.hold(2);
        x.note(0, 0, 0);
        x.days(4);
        int[] end = {2, 3, 4, 2, 4, 7, 2, 2, 20, 4, 1, 2, 0, 4};
        for (int what = 0; what < 14; what++) {
            if (what != 5 && what != 12) {
                due("count(" + what + ")", x.count(what), end[what]);
            }
        }
        due("all WATER", x.count(12), x.well(0, 1) + x.well(1, 1));
    }
}
