import java.util.ArrayList;
import java.util.Arrays;
import java.util.LinkedHashMap;
import java.util.List;
import java.util.Map;

/** The bounds of promises 1 to 5 and of the first part of 'Terms': the tape, TOKENS, numbers, the five FAULTS. */
public final class SecretWellsTextBounds {
    private static final String[] WORDS = ("well man secret false tie fills tells drinks thirst salt seed if then else "
        + "day deep wet dry know heavy with which").split(" ");
    private static final String[] SIGNS = "; = + - * / < ( )".split(" ");
    private static final String[] LAWS = {"fills", "tells", "drinks"};
    private static final String CASE = "if 1<2 then 3 else ";
    private static final int BLANKS = 0x20202020;

    public static void main(String[] args) {
        newObject();
        feed();
        feedOrder();
        back();
        read();
        place();
        blanks();
        names();
        words();
        ints();
        signs();
        whatGoesOn();
        wells();
        men();
        secrets();
        ties();
        numbering();
        lawsNotTold();
        lastLaws();
        thirst();
        salt();
        seed();
        byPlace();
        tokens();
        sorts();
        ifs();
        brackets();
        meaningBehindShape();
        twice();
        tieToHimself();
        knowsAgain();
        noSuchName();
        wrongNumbers();
        faultChangesNothing();
        inPlaceOfTheOneAhead();
        nothingIsLeftOfAFault();
        Due.end();
    }

    // ---- promises 1 to 5

    private static void newObject() {
        Due.sentence("Nothing is told.");
        SecretWells x = new SecretWells();
        for (int what = 0; what < 14; what++) {
            Due.due("count(" + what + ")", x.count(what), 0);
        }
        Due.due("place()", x.place(), -1);
        Due.due("undo()", x.undo(), false);
        Due.due("restore(0)", x.restore(0), false);
        Due.due("forget()", x.forget(), 0);
        Due.due("back(1)", x.back(1), -1);
        Due.due("NONE", SecretWells.NONE, -1);
        Due.due("a new object", Due.probed(new SecretWells()), Due.probed(Due.of("")));
    }

    /** A tape of so many bytes, blanks but for the last ones. */
    private static SecretWells taped(int bytes, String last) {
        SecretWells x = new SecretWells();
        Due.feed(x, " ".repeat(bytes - last.length()) + last);
        Due.due("bytes on the tape", x.count(8), bytes);
        return x;
    }

    private static void feed() {
        Due.sentence("NONE, and nothing comes, if it would have more than 2,000.");
        SecretWells x = new SecretWells();
        for (int i = 1; i <= 100; i++) {
            Due.due("feed " + i, x.feed(BLANKS, BLANKS, BLANKS, BLANKS, BLANKS), 20 * i);
        }
        for (int length : new int[] {1981, 1982, 1999, 2000}) {
            Due.still("feed behind " + length, () -> taped(length, "salt 7;"), y -> y.feed(0x23232323, 0, 0, 0, 0), -1);
            SecretWells y = taped(length, "salt 7;");
            y.feed(0x23232323, 0x23232323, 0x23232323, 0x23232323, 0x23232323);
            Due.due("bytes behind a refused feed", y.count(8), length);
            Due.due("read() behind a refused feed", y.read(), 0);
        }
        for (int length : new int[] {0, 1, 1979, 1980}) {
            SecretWells y = taped(length, "");
            Due.due("feed behind " + length, y.feed(BLANKS, BLANKS, BLANKS, BLANKS, 0x20202023), length + 20);
            Due.due("read()", y.read(), 1);
            Due.due("place()", y.place(), length + 19);
        }
        Due.sentence("A TEXT has 2,000 bytes at most.");
        Due.due("read() of 2,000", taped(2000, "salt 7;").read(), 0);
        SecretWells z = taped(2000, "salt 7");
        Due.due("read() of 2,000", z.read(), 1);
        Due.due("its end", z.place(), 2000);
    }

    private static void feedOrder() {
        Due.sentence("Twenty bytes, the highest of a first, come behind the tape: how many it has.");
        for (int at = 0; at < 20; at++) {
            for (int odd : new int[] {0, '#', 128, 255}) {
                int[] v = {BLANKS, BLANKS, BLANKS, BLANKS, BLANKS};
                int shift = 24 - at % 4 * 8;
                v[at / 4] = v[at / 4] & ~(255 << shift) | odd << shift;
                SecretWells x = taped(3, "");
                Due.due("feed", x.feed(v[0], v[1], v[2], v[3], v[4]), 23);
                Due.due("read() with " + odd, x.read(), 1);
                Due.due("place() with " + odd, x.place(), 3 + at);
            }
        }
    }

    private static void back() {
        Due.sentence("NONE, and nothing goes, if it has not so many, or n is below 0.");
        for (int n : new int[] {-1, -2, Due.MIN, 21, 22, 2000, Due.MAX}) {
            Due.still("back(" + n + ")", Due::rich, x -> x.back(n), -1);
        }
        SecretWells empty = new SecretWells();
        Due.due("back(0) of none", empty.back(0), 0);
        Due.due("back(1) of none", empty.back(1), -1);
        SecretWells full = taped(2000, "");
        Due.due("back(2001)", full.back(2001), -1);
        Due.due("back(2000)", full.back(2000), 0);
        Due.sentence("The last n bytes of the tape go: how many it has.");
        for (int n = 0; n <= 20; n++) {
            SecretWells x = taped(20, "");
            Due.due("back(" + n + ")", x.back(n), 20 - n);
            Due.due("count(8)", x.count(8), 20 - n);
        }
        int[] faults = {1, 0, 1};
        int[] places = {14, -1, 13};
        for (int n = 0; n < 3; n++) {
            SecretWells x = taped(15, "salt 7;#");
            x.back(n);
            Due.due("read() behind back(" + n + ")", x.read(), faults[n]);
            Due.due("place() behind back(" + n + ")", x.place(), places[n]);
        }
    }

    private static void read() {
        Due.sentence("The tape, which is empty then, is read: 0, or the number of its FAULT.");
        SecretWells x = Due.of(Due.VILLAGE);
        Due.due("the tape behind a good text", x.count(8), 0);
        Due.feed(x, "salt");
        Due.due("read()", x.read(), 1);
        Due.due("the tape behind a FAULT", x.count(8), 0);
        Due.due("what the old text told", x.count(0), 2);
        Due.due("read() of an empty tape: a text of no TELLS", x.read(), 0);
        Due.due("what there is behind it", Due.probed(x), Due.probed(new SecretWells()));
    }

    private static void place() {
        Due.sentence("The byte of the latest read()'s FAULT; NONE without.");
        SecretWells x = new SecretWells();
        Due.due("place() without read()", x.place(), -1);
        Due.feed(x, "#");
        Due.due("place() ahead of read()", x.place(), -1);
        x.read();
        Due.due("place() at 0", x.place(), 0);
        Due.feed(x, "  #");
        Due.due("place() ahead of read()", x.place(), 0);
        x.read();
        Due.due("place() of the latest", x.place(), 2);
        x.days(1);
        x.undo();
        x.hold(0);
        x.restore(0);
        x.back(1);
        Due.due("place() behind other calls", x.place(), 2);
        Due.feed(x, "thirst 0;");
        x.read();
        Due.due("place() of a WRONG", x.place(), 7);
        Due.feed(x, "thirst 1;");
        x.read();
        Due.due("place() without", x.place(), -1);
    }

    // ---- TOKENS

    private static void blanks() {
        Due.sentence("with blanks (9, 10, 13, 32) between or not");
        for (int b = 0; b < 256; b++) {
            boolean isBlank = b == 9 || b == 10 || b == 13 || b == 32;
            char c = (char) b;
            Due.fault("salt 1;" + c + "salt 2;", isBlank ? 0 : 1, isBlank ? -1 : 7);
            Due.fault(c + ";", 1, isBlank ? 1 : 0);
            Due.fault("salt 1;" + c, isBlank ? 0 : 1, isBlank ? -1 : 7);
        }
        Due.good("well a1 1;man m a 1;secret s 1m;fills=if(1)<2then 3else(4);");
        Due.good("\t\r\n well \t a\n1\r1 ; ");
        Due.fault("well a1b1;", 1, 7);
        Due.fault("well a 11;", 1, 9);
        Due.fault("wella 1 1;", 1, 0);
    }

    private static void names() {
        Due.sentence("NAMES (letters a .. z, 8 at most, none of the words in quotes)");
        Due.fault("well 1 1;", 1, 5);
        Due.good("well a 1 1;");
        Due.good("well z 1 1;");
        Due.good("well abcdefg 1 1;");
        Due.good("well zzzzzzzz 1 1;");
        Due.fault("well zzzzzzzza 1 1;", 1, 5);
        Due.fault("well " + "a".repeat(16) + " 1 1;", 1, 5);
        Due.fault("well " + "a".repeat(1900) + " 1 1;", 1, 5);
        Due.good("well abcdefga 1 1; well abcdefgb 1 1; well bbcdefga 1 1; well a 1 1;");
        Due.fault("well abcdefga 1 1; well abcdefga 1 1;", 3, 24);
        for (char c : new char[] {'A', 'Z', '`', '{', '_', '@', 225}) {
            Due.fault("well " + c + " 1 1;", 1, 5);
            Due.fault("well a" + c + " 1 1;", 1, 6);
        }
        Due.sentence("A longer one, all else, is no TOKEN.");
        Due.fault("wellwells a 1 1;", 1, 0);
        Due.fault("well a 1 1; man m abcdefghi 1;", 1, 18);
        Due.fault("well a 1 1; thirstthirst 1;", 1, 12);
    }

    private static void words() {
        Due.sentence("none of the words in quotes");
        Due.due("words", WORDS.length, 22);
        for (String word : WORDS) {
            Due.fault("well " + word + " 1 1;", 1, 5);
            Due.good("well " + word + "x 1 1;");
            Due.good("well x" + word + " 1 1;");
            Due.good("well " + word.substring(0, word.length() - 1) + " 1 1;");
            Due.fault("well w 1 1; man m w 1; secret s 1 m " + word + ";", 1, 36);
        }
    }

    private static void ints() {
        Due.sentence("INTS (1 to 4 digits)");
        Due.good("seed 0;");
        Due.good("seed 9;");
        Due.good("seed 9999;");
        Due.good("seed 0000;");
        Due.fault("seed 00000;", 1, 5);
        Due.fault("seed 10000;", 1, 5);
        Due.fault("seed 00001;", 1, 5);
        Due.fault("seed " + "1".repeat(1900) + ";", 1, 5);
        Due.fault("seed 4294967297;", 1, 5);
        Due.good("fills = 9999;");
        Due.fault("fills = 10000;", 1, 8);
        Due.fault("fills = 1 + 00001;", 1, 12);
        Due.due("0099 is 99", Due.of("well w 0099 0;").well(0, 0), 99);
        for (char c : new char[] {'/', ':'}) {
            Due.fault("seed " + c + ";", 1, 5);
        }
    }

    private static void signs() {
        Due.sentence("SIGNS ; = + - * / < ( ) .");
        for (int b = 33; b < 256; b++) {
            boolean isNumber = b >= '0' && b <= '9';
            boolean isOperator = "+-*/".indexOf(b) >= 0;
            Due.fault("fills = 1" + (char) b + "1;", isNumber || isOperator ? 0 : 1, isNumber || isOperator ? -1 : b == ';' ? 10 : 9);
        }
        Due.good("fills=if(1+2)<3-4then 5*6else 7/8;");
        Due.fault("fills == 1;", 1, 7);
        Due.fault("fills = if 1 > 2 then 3 else 4;", 1, 13);
        Due.fault("fills = if 1 <= 2 then 3 else 4;", 1, 14);
        Due.fault("fills = 1 % 2;", 1, 10);
        Due.fault("well a 1 1,", 1, 10);
    }

    // ---- SYNTAX, by what may stand behind each beginning

    private static final String UNIT = " 5 ( day deep wet dry know heavy with which";
    private static final String MORE = " + - * /";

    /** Beginnings, and all TOKENS with which a text goes on (x is a NAME, 5 an INT). */
    private static Map<String, String> beginnings() {
        Map<String, String> all = new LinkedHashMap<>();
        all.put("", "well man secret tie fills tells drinks thirst salt seed");
        all.put("well", "x");
        all.put("well v", "5");
        all.put("well v 5", "5");
        all.put("well v 5 5", ";");
        all.put("man", "x");
        all.put("man m", "x");
        all.put("man m w", "5");
        all.put("man m w 5", ";");
        all.put("secret", "x");
        all.put("secret s", "5");
        all.put("secret s 5", "false x ;");
        all.put("secret s 5 false", "x ;");
        all.put("secret s 5 n", "x ;");
        all.put("secret s 5 false n o", "x ;");
        all.put("tie", "x");
        all.put("tie n", "x");
        all.put("tie n o", ";");
        for (String word : new String[] {"thirst", "salt", "seed"}) {
            all.put(word, "5");
            all.put(word + " 5", ";");
        }
        for (String law : LAWS) {
            putLaw(all, law);
        }
        return all;
    }

    private static void putLaw(Map<String, String> all, String law) {
        all.put(law, "=");
        String is = law + " = ";
        all.put(law + " =", "if" + UNIT);
        all.put(is + "5", ";" + MORE);
        all.put(is + "which", ";" + MORE);
        all.put(is + "( 5 )", ";" + MORE);
        all.put(is + "5 + 5 * 5", ";" + MORE);
        for (String open : new String[] {"(", "( (", "5 +", "5 -", "5 *", "5 /", "( 5 *"}) {
            all.put(is + open, UNIT);
        }
        all.put(is + "( 5", ")" + MORE);
        all.put(is + "( ( 5 )", ")" + MORE);
        for (String ahead : new String[] {"", "if 5 < 5 then 5 else "}) {
            all.put(is + ahead + "if", UNIT);
            all.put(is + ahead + "if day", "<" + MORE);
            all.put(is + ahead + "if ( 5", ")" + MORE);
            all.put(is + ahead + "if 5 <", UNIT);
            all.put(is + ahead + "if 5 < 5", "then" + MORE);
            all.put(is + ahead + "if 5 < 5 then", UNIT);
            all.put(is + ahead + "if 5 < 5 then 5", "else" + MORE);
            all.put(is + ahead + "if 5 < 5 then 5 else", "if" + UNIT);
            all.put(is + ahead + "if 5 < 5 then 5 else 5", ";" + MORE);
        }
    }

    private static void whatGoesOn() {
        Due.sentence("1 SYNTAX: a TOKEN, or what is none, with which no text goes on.");
        List<String> tokens = new ArrayList<>(Arrays.asList(WORDS));
        tokens.addAll(Arrays.asList(SIGNS));
        tokens.addAll(List.of("x", "5", "#", "abcdefghi", "12345", "X"));
        for (Map.Entry<String, String> entry : beginnings().entrySet()) {
            String ahead = "well w 9 9; man n w 1; man o w 1; " + entry.getKey();
            List<String> allowed = Arrays.asList(entry.getValue().trim().split(" "));
            boolean isWhole = entry.getKey().isEmpty();
            Due.fault(ahead, isWhole ? 0 : 1, isWhole ? -1 : ahead.length());
            Due.fault(ahead + "  \n", isWhole ? 0 : 1, isWhole ? -1 : ahead.length() + 3);
            for (String token : tokens) {
                String text = ahead + " " + token;
                if (!allowed.contains(token)) {
                    Due.fault(text, 1, ahead.length() + 1);
                } else if (token.equals(";")) {
                    Due.good(text);
                } else {
                    Due.fault(text, 1, text.length());
                }
            }
        }
    }

    // ---- numbers of a sort, and what they are

    /** One below, at both bounds, one beyond: WRONG at the INT, or good. */
    private static void range(String ahead, String behind, int least, int most) {
        for (int number : new int[] {least - 1, least, most, most + 1, 9999}) {
            if (number >= 0 && number <= 9999) {
                boolean isIn = number >= least && number <= most;
                Due.fault(ahead + number + behind, isIn ? 0 : 5, isIn ? -1 : ahead.length());
            }
        }
    }

    private static String row(String ahead, int n, String behind) {
        StringBuilder row = new StringBuilder();
        for (int i = 0; i < n; i++) {
            row.append(ahead).append((char) ('a' + i)).append(behind);
        }
        return row.toString();
    }

    private static void wells() {
        Due.sentence("WELLS, 4 at most (a NAME, ROCK: how deep without secrets 0 .. 999, WATER in it 0 .. 999)");
        range("well w ", " 5;", 0, 999);
        range("well w 5 ", ";", 0, 999);
        for (int n = 0; n <= 4; n++) {
            SecretWells x = Due.of(row("well w", n, " 7 3;"));
            Due.due("WELLS", x.count(0), n);
            Due.due("the last one", x.well(n - 1, 0), n == 0 ? -1 : 7);
            Due.due("one beyond", x.well(n, 0), -1);
        }
        SecretWells x = Due.of("well a 0 0; well b 999 999; well c 0 999; well d 999 0;");
        int[] deep = {0, 999, 0, 999};
        int[] water = {0, 999, 0, 0};
        for (int w = 0; w < 4; w++) {
            Due.due("ROCK", x.well(w, 0), deep[w]);
            Due.due("WATER", x.well(w, 1), water[w]);
        }
    }

    private static void men() {
        Due.sentence("MEN, 7 at most (a NAME, the WELL they drink from, what they want each day 0 .. 99)");
        range("well w 5 5; man m w ", ";", 0, 99);
        for (int n = 0; n <= 7; n++) {
            SecretWells x = Due.of("well v 1 1; well w 1 1;" + row("man m", n, " w 99;"));
            Due.due("MEN", x.count(1), n);
            Due.due("alive", x.count(5), (1 << n) - 1);
            Due.due("the last one's WELL", x.man(n - 1, 1), n == 0 ? -1 : 1);
            Due.due("what he wants", x.man(n - 1, 4), n == 0 ? -1 : 99);
            Due.due("one beyond", x.man(n, 0), -1);
        }
        Due.due("who wants 0", Due.of("well w 5 5; man m w 0;").man(0, 4), 0);
    }

    private static void secrets() {
        Due.sentence("SECRETS, 8 at most (a NAME, HEAVY 1 .. 99, whether FALSE, the MEN who know it)");
        range("secret s ", ";", 1, 99);
        range("secret s ", " false;", 1, 99);
        for (int n = 0; n <= 8; n++) {
            SecretWells x = Due.of("well w 1 1; man m w 0;" + row("secret s", n, " 99 m;"));
            Due.due("SECRETS", x.count(2), n);
            Due.due("the man knows all", x.man(0, 3), (1 << n) - 1);
            Due.due("the last one", x.whisper(0, n - 1, 0), n == 0 ? -1 : 991);
            Due.due("one beyond", x.secret(n, 0), -1);
        }
        SecretWells x = Due.of("well w 1 1;" + row("man m", 7, " w 1;")
            + "secret s 1 ma; secret t 1; secret u 1 false; secret v 1 mg mf me md mc mb ma; secret w" + "x 1 false mg;");
        int[] who = {1, 0, 0, 127, 64};
        for (int s = 0; s < 5; s++) {
            Due.due("who know " + s, x.secret(s, 0), who[s]);
        }
        Due.due("FALSE ones", x.count(13), 20);
        Due.due("HEAVY 1", x.whisper(0, 0, 0), 11);
    }

    private static void ties() {
        Due.sentence("TIES, 12 at most (from MAN to MAN)");
        for (int n = 0; n <= 12; n++) {
            SecretWells x = Due.of("well w 1 1; man a w 1; man b w 1; secret s 1;" + Due.times(n, "tie a b;") + "tells = which;");
            Due.due("TIES", x.count(3), n);
            Due.due("the last one", x.tells(n - 1, 0), n - 1);
            Due.due("one beyond", x.tells(n, 0), -1);
            Due.due("cut the last one", x.cut(n - 1, true), n > 0);
            Due.due("cut one beyond", x.cut(n, true), false);
        }
        SecretWells x = Due.of("well w 1 1; man a w 0; man b w 0; secret s 1 a; secret t 1 b; tie b a; tells = 100;");
        x.days(1);
        Due.due("from b to a", x.man(0, 3), 3);
        Due.due("not from a to b", x.man(1, 3), 2);
    }

    private static void numbering() {
        Due.sentence("numbered each from 0 on as they stand");
        SecretWells x = Due.of("secret t 9; well b 2 0; man q b 2; secret s 1 q; well a 1 0; man p a 1; tie p q; secret r 2 p q; tie q p; tells = which;");
        Due.due("WELL 0", x.well(0, 0), 2);
        Due.due("WELL 1", x.well(1, 0), 1);
        Due.due("MAN 0", x.man(0, 4), 2);
        Due.due("MAN 1", x.man(1, 1), 1);
        Due.due("SECRET 0", x.secret(0, 0), 0);
        Due.due("SECRET 1", x.secret(1, 0), 1);
        Due.due("SECRET 2", x.secret(2, 0), 3);
        Due.due("TIE 1", x.tells(1, 0), 1);
        Due.due("from TIE 0 on", x.silence(1, 1, 1), 2);
    }

    private static final String TOLD = "well w 50 20; man m w 7; man n w 8; secret s 1 m; tie m n;";

    private static void lawsNotTold() {
        Due.sentence("LAWS: FILLS (10), TELLS (0), DRINKS (what they want), if not told; the last one.");
        SecretWells x = Due.of(TOLD);
        Due.due("FILLS", x.well(0, 5), 10);
        Due.due("TELLS", x.tells(0, 0), 0);
        Due.due("DRINKS", x.man(0, 4), 7);
        Due.due("DRINKS", x.man(1, 4), 8);
        x.days(1);
        Due.due("WATER: 20 + 10 - 7 - 8", x.well(0, 1), 15);
        x.days(100);
        Due.due("never told on", x.man(1, 3), 0);
    }

    private static void lastLaws() {
        SecretWells x = Due.of("fills = 3; tells = 4; drinks = 5; fills = 1 / 0; fills = 13; drinks = 15; tells = 14;" + TOLD);
        Due.due("the last FILLS", x.well(0, 5), 13);
        Due.due("the last TELLS", x.tells(0, 0), 14);
        Due.due("the last DRINKS", x.man(0, 4), 15);
        x = Due.of("fills = if 1 < 2 then 3 else 4;" + TOLD + "fills = 0;");
        Due.due("the last FILLS", x.well(0, 5), 0);
        Due.feed(x, TOLD);
        x.read();
        Due.due("not told by the next text", x.well(0, 5), 10);
    }

    private static void thirst() {
        Due.sentence("THIRST: with how much they die 1 .. 99 (9; the last one).");
        range("thirst ", ";", 1, 99);
        String dry = "well w 9 0; man m w 9; fills = 0;";
        Due.due("not told", Due.of(dry).first(1), 9);
        Due.due("1", Due.of(dry + "thirst 1;").first(1), 1);
        Due.due("99", Due.of("thirst 99;" + dry).first(1), 99);
        Due.due("the last one", Due.of("thirst 2;" + dry + "thirst 5; thirst 3;").first(1), 3);
        Due.fault("thirst 0; thirst 3;", 5, 7);
    }

    private static void salt() {
        Due.sentence("SALT 0 .. 99 (10; the last one).");
        range("salt ", ";", 0, 99);
        String wet = "well w 200 100; man m w 9; secret s 1 m;";
        int[] told = {-1, 0, 1, 98, 99};
        int[] water = {90, 100, 99, 2, 1};
        for (int i = 0; i < told.length; i++) {
            SecretWells x = Due.of(told[i] < 0 ? wet : wet + "salt " + told[i] + ";");
            x.drill(0, 0, 0);
            Due.due("WATER, SALT " + told[i], x.well(0, 1), water[i]);
        }
        SecretWells x = Due.of("salt 9;" + wet + "salt 7; salt 3;");
        x.drill(0, 0, 0);
        Due.due("WATER, the last SALT", x.well(0, 1), 97);
    }

    /** By a TELLS of just LOT he is not told, by one more he is. */
    private static void lotIs(String seeds, int lot) {
        for (int more = 0; more < 2; more++) {
            SecretWells x = Due.of(seeds + "well w 9 9; man a w 0; man b w 0; secret s 1 a; tie a b; tells = " + (lot + more) + ";");
            x.days(1);
            Due.due("LOT " + lot + " of " + seeds, x.man(1, 3), more);
        }
    }

    private static void seed() {
        Due.sentence("SEED 0 .. 9999 (0; the last one).");
        Due.good("seed 0;");
        Due.good("seed 9999;");
        Due.fault("seed 10000;", 1, 5);
        lotIs("", Due.lot(100, 0, 0));
        lotIs("seed 0;", Due.lot(100, 0, 0));
        lotIs("seed 9999;", Due.lot(100, 9999, 0));
        lotIs("seed 4; seed 77;", Due.lot(100, 77, 0));
        lotIs("seed 77; seed 0;", Due.lot(100, 0, 0));
        String pair = "well w 9 9; man a w 0; man b w 0; secret s 1 a; tie a b; tells = " + (Due.lot(100, 0, 0) + 1) + ";";
        Due.due("LOT of SEED 1 is more than that of SEED 0", Due.lot(100, 1, 0) > Due.lot(100, 0, 0), true);
        SecretWells x = new SecretWells();
        for (int i = 0; i < 6; i++) {
            boolean isTold = i % 3 == 0;
            Due.feed(x, isTold ? pair + "seed 1;" : pair);
            Due.due("read()", x.read(), 0);
            Due.due("SEED of text " + i + " alone", x.manIn(1, 1, 2), isTold ? 0 : 1);
        }
    }

    // ---- FAULTS

    private static void byPlace() {
        Due.sentence("FAULTS of a text, the first by its place (a byte; the text's end: its length), of one place the least");
        String five = row("well w", 5, " 1 1;");
        int fifth = row("well w", 4, " 1 1;").length();
        Due.fault(five, 2, fifth);
        Due.fault(five + "#", 2, fifth);
        Due.fault("#" + five, 1, 0);
        Due.fault(row("well w", 4, " 1 1;") + "# well", 1, fifth);
        Due.fault(five + row("secret s", 9, " 1;"), 2, fifth);
        Due.fault(row("secret s", 9, " 1;") + five, 2, row("secret s", 8, " 1;").length());
        Due.fault("well w 1 1", 1, 10);
        Due.fault("well w 1 1   ", 1, 13);
        Due.fault(" ", 0, -1);
        Due.fault("well w 1 1;;", 1, 11);
    }

    private static void tokens() {
        Due.sentence("2 ROOM: a 401st TOKEN;");
        String of399 = Due.times(133, "salt 1;");
        String of400 = "fills=1" + Due.times(198, "+1") + ";";
        Due.good(of399);
        Due.good(of400);
        Due.good(of400 + "\n  ");
        Due.fault(of399 + "salt", 1, of399.length() + 4);
        Due.fault(of399 + "salt 1", 2, of399.length() + 5);
        Due.fault(of399 + "salt 1;", 2, of399.length() + 5);
        Due.fault(of399 + "salt ;", 1, of399.length() + 5);
        Due.fault(of399 + "salt #", 1, of399.length() + 5);
        Due.fault(of399 + "salt 12345", 1, of399.length() + 5);
        Due.fault(of399 + "salt 1 #", 2, of399.length() + 5);
        Due.fault(of399 + "x", 1, of399.length());
        for (String word : new String[] {"well", "man", "secret", "tie", "fills", "tells", "drinks", "thirst", "salt", "seed"}) {
            Due.fault(of400 + "  " + word, 2, of400.length() + 2);
        }
        Due.fault(of400 + "  ;", 1, of400.length() + 2);
        Due.fault(of400 + "#", 1, of400.length());
        Due.fault("fills=1" + Due.times(198, "+1"), 1, 403);
        Due.fault("fills=1" + Due.times(199, "+1") + ";", 2, 404);
        Due.fault("fills=1" + Due.times(198, "+1") + ")", 1, 403);
        Due.fault("fills=(1" + Due.times(198, "+1") + ")", 2, 404);
        Due.fault("fills=((1" + Due.times(198, "+1") + "))", 2, 404);
        Due.fault(Due.times(1999, "("), 1, 0);
        Due.fault("fills=" + Due.times(990, "1+") + "1;", 2, 404);
        Due.fault(Due.times(285, "salt 1;"), 2, of399.length() + 5);
    }

    private static void sorts() {
        Due.sentence("one more of a sort than told (at its first TOKEN);");
        String well = "well w 1 1; ";
        String two = well + "man a w 1; man b w 1; ";
        String[] full = {row("well w", 4, " 1 1; "), well + row("man m", 7, " w 1; "), row("secret s", 8, " 1; "), two + Due.times(12, "tie a b; ")};
        String[] words = {"well", "man", "secret", "tie"};
        String[] rest = {" x 1 1;", " x w 1;", " x 1;", " a b;"};
        for (int i = 0; i < 4; i++) {
            Due.good(full[i]);
            Due.fault(full[i] + words[i] + rest[i], 2, full[i].length());
            Due.fault(full[i] + words[i], 2, full[i].length());
            Due.fault(full[i] + words[i] + " #", 2, full[i].length());
            Due.fault(full[i] + "x " + words[i] + rest[i], 1, full[i].length());
        }
        Due.good(row("well w", 4, " 1 1; ") + row("man m", 7, " wa 1; ") + row("secret s", 8, " 1; ") + Due.times(12, "tie ma mb; "));
        Due.good(Due.times(19, "fills = 1; tells = 1; drinks = 1; thirst 1; salt 1; seed 1;"));
    }

    private static void ifs() {
        Due.sentence("a 5th if of a LAW (at it);");
        for (String law : LAWS) {
            String is = law + "=";
            for (int n = 0; n <= 4; n++) {
                Due.good(is + Due.times(n, CASE) + "4;");
            }
            String four = is + Due.times(4, CASE);
            Due.fault(four + CASE + "4;", 2, four.length());
            Due.fault(four + "if", 2, four.length());
            Due.fault(four + "if #", 2, four.length());
            Due.fault(four + "then", 1, four.length());
            Due.fault(four + "#", 1, four.length());
        }
        String four = Due.times(4, CASE) + "4;";
        Due.good("fills=" + four + "tells=" + four + "drinks=" + four + "fills=" + four);
        Due.fault("fills=" + four + "fills=" + Due.times(4, CASE) + "if", 2, 2 * ("fills=" + four).length() - 2);
    }

    private static void brackets() {
        Due.sentence("a 7th ( within one another (at it).");
        String six = "((((((1))))))";
        for (String law : LAWS) {
            String is = law + "=";
            for (int n = 0; n <= 6; n++) {
                Due.good(is + "(".repeat(n) + "1" + ")".repeat(n) + ";");
            }
            Due.fault(is + "(((((((1)))))));", 2, is.length() + 6);
            Due.fault(is + "(((((((", 2, is.length() + 6);
            Due.fault(is + "((((((#", 1, is.length() + 6);
            Due.fault(is + "(((((()", 1, is.length() + 6);
        }
        Due.good("fills=" + six + "+" + six + "*" + six + ";");
        Due.good("fills=(((((" + "(1)+(2)+(3)" + ")))));");
        Due.fault("fills=(((((" + "(1)+((2))" + ")))));", 2, 16);
        Due.good("fills=if" + six + "<" + six + "then" + six + "else" + six + ";");
        String[] ahead = {"fills=if", "fills=if 1<", "fills=if 1<2 then", "fills=if 1<2 then 3 else", "fills=" + six + "-"};
        for (String begin : ahead) {
            Due.fault(begin + "(" + six + ")", 2, begin.length() + 6);
        }
    }

    private static void meaningBehindShape() {
        Due.sentence("If there is none, likewise:");
        Due.fault("well w 1000 1; well w 1 1; man m v 1; #", 1, 38);
        Due.fault("well w 1000 1; well w 1 1; man m v 1", 1, 36);
        String five = row("well w", 4, " 1000 1;");
        Due.fault(five + "well wa 1 1;", 2, five.length());
        Due.fault("well w 1000 1; well w 1 1; man m v 1;", 5, 7);
        Due.fault("well w 1 1; well w 1000 1; man m v 1;", 3, 17);
        Due.fault("man m v 100; well w 1000 1; well w 1 1;", 4, 6);
        Due.fault("well w 1 1; well w 1000 1; man m v 1; secret s 0;", 3, 17);
        Due.fault("secret s 0 x x; secret s 1;", 5, 9);
        Due.fault("secret s 1 x x; secret s 0;", 4, 11);
    }

    private static void twice() {
        Due.sentence("3 TWICE: a NAME told already (all together);");
        String[] told = {"well x 1 1; ", "man x v 1; ", "secret x 1; "};
        String[] names = {"well ", "man ", "secret "};
        String ahead = "well v 1 1; ";
        for (String first : told) {
            for (int i = 0; i < 3; i++) {
                Due.fault(ahead + first + told[i], 3, (ahead + first + names[i]).length());
            }
        }
        Due.fault("well v 1 1; man v v 1;", 3, 16);
        Due.fault("well x 1 1; well y 1 1; secret z 1; secret x 100;", 3, 43);
        Due.good("well x 1 1; well xx 1 1; man xxx x 1; secret xxxx 1;");
        Due.sentence("(a NAME told more than once is that of the first one)");
        Due.fault("well x 1 1; secret x 1; man m x 1;", 3, 19);
        Due.fault("well x 1 1; well x 2 2; man m x 1;", 3, 17);
    }

    private static final String TWO = "well w 1 1; man a w 1; man b w 1; ";

    private static void tieToHimself() {
        Due.sentence("(at the second NAME) a TIE from a MAN to himself;");
        int tie = (TWO + "tie a ").length();
        Due.fault(TWO + "tie a a;", 3, tie);
        Due.fault(TWO + "tie b b;", 3, tie);
        Due.good(TWO + "tie a b; tie b a;");
        Due.good(TWO + "tie a b; tie a b;");
        Due.fault(TWO + "tie c c;", 4, tie - 2);
        Due.fault(TWO + "tie a b; tie b   b;", 3, tie + 11);
    }

    private static void knowsAgain() {
        Due.sentence("(at it) a MAN again who knows a SECRET.");
        int knows = (TWO + "secret s 1 ").length();
        Due.fault(TWO + "secret s 1 a a;", 3, knows + 2);
        Due.fault(TWO + "secret s 1 a b a;", 3, knows + 4);
        Due.fault(TWO + "secret s 1 false b b;", 3, knows + 8);
        Due.good(TWO + "secret s 1 a b; secret t 1 a b; secret u 1 b a;");
        Due.fault(TWO + "secret s 1 a; secret t 1 b b;", 3, knows + 16);
    }

    private static void noSuchName() {
        Due.sentence("4 NAME: (at it) no such WELL, MAN told ahead");
        String all = TWO + "secret s 1 a; ";
        int at = all.length();
        Due.good(all + "man m w 1; tie a b; secret t 1 a;");
        for (String name : new String[] {"x", "a", "s", "m", "ww"}) {
            Due.fault(all + "man m " + name + " 1;", 4, at + 6);
        }
        Due.fault(all + "man m v 1; well v 1 1;", 4, at + 6);
        for (String name : new String[] {"x", "w", "s", "aa"}) {
            Due.fault(all + "tie " + name + " b;", 4, at + 4);
            Due.fault(all + "tie a " + name + ";", 4, at + 6);
            Due.fault(all + "secret t 1 " + name + ";", 4, at + 11);
            Due.fault(all + "secret t 1 a " + name + ";", 4, at + 13);
        }
        Due.fault(all + "secret t 1 t;", 4, at + 11);
        Due.fault(all + "tie a c; man c w 1;", 4, at + 6);
        Due.fault(all + "tie c a; man c w 1;", 4, at + 4);
        Due.fault(all + "secret t 1 c; man c w 1;", 4, at + 11);
        Due.fault("man m m 1;", 4, 6);
        Due.fault("tie a b;", 4, 4);
    }

    private static void wrongNumbers() {
        Due.sentence("5 WRONG (at the INT): a number not as told above.");
        Due.fault("well w 1000 1000;", 5, 7);
        Due.fault("well w   1   1000;", 5, 13);
        Due.fault("well w 1 1; man m w 0100;", 5, 20);
        Due.fault("secret s 0000;", 5, 9);
        Due.fault("salt 5; salt 100; salt 5;", 5, 13);
        Due.fault("thirst 5; thirst 100; thirst 5;", 5, 17);
        Due.good("fills = 9999 + 0; tells = 9999; drinks = 9999;");
    }

    private static void faultChangesNothing() {
        Due.sentence("A text with a FAULT changes nothing but the tape;");
        String new1 = "well x 3 3; man y x 1; secret z 9 false y; fills = 7; tells = 7; drinks = 7; thirst 1; salt 1; seed 1; ";
        String[] spoilt = {"#", "well", row("secret s", 8, " 1;"), "well x 1 1;", "man z x 1;", "man u t 1;", "tie y y;", "tie y q;", "salt 100;", "secret u 1 y y;"};
        int[] numbers = {1, 1, 2, 3, 3, 4, 3, 4, 5, 3};
        for (int i = 0; i < spoilt.length; i++) {
            String text = new1 + spoilt[i];
            Due.still("read() of " + text, Due::eventful, x -> {
                Due.feed(x, text);
                return x.read();
            }, numbers[i]);
            SecretWells x = Due.eventful();
            Due.feed(x, text);
            x.read();
            SecretWells y = Due.eventful();
            Due.due("days ahead", x.days(5), y.days(5));
            Due.due("what there is in 5 DAYS", Due.probed(x), Due.probed(y));
        }
    }

    private static void inPlaceOfTheOneAhead() {
        Due.sentence("else it is in place of the one ahead: day 0, all alive, no THIRST, nothing whispered, WATER as told "
            + "(no more than the WELL is DEEP), no TIE cut, nothing can be undone, nothing is TOLD, SLOTS hold nothing.");
        SecretWells x = Due.rich();
        x.hold(1);
        x.days(20);
        Due.due("somebody is dead", x.count(5) == 7, false);
        x.back(20);
        Due.feed(x, Due.VILLAGE);
        Due.due("read()", x.read(), 0);
        int[] counts = {2, 3, 4, 2, 0, 7, 0, 0, 0, 0, 0, 0, 25, 4};
        for (int what = 0; what < 14; what++) {
            Due.due("count(" + what + ")", x.count(what), counts[what]);
        }
        for (int m = 0; m < 3; m++) {
            Due.due("THIRST", x.man(m, 2), 0);
        }
        for (int s = 0; s < 4; s++) {
            Due.due("whispered", x.secret(s, 2), -2);
        }
        Due.due("WATER, no more than DEEP", x.well(0, 1), 20);
        Due.due("WATER as told", x.well(1, 1), 5);
        Due.due("undo()", x.undo(), false);
        for (int slot = 0; slot < 3; slot++) {
            Due.due("restore(" + slot + ")", x.restore(slot), false);
        }
        Due.due("what there is", Due.probed(x), Due.probed(Due.of(Due.VILLAGE)));
        x = Due.of("well a 9 8; well b 9 9; well c 9 10;");
        Due.due("one less than DEEP", x.well(0, 1), 8);
        Due.due("as much as DEEP", x.well(1, 1), 9);
        Due.due("one more than DEEP", x.well(2, 1), 9);
    }

    private static void nothingIsLeftOfAFault() {
        Due.sentence("A text with a FAULT changes nothing but the tape;");
        String good = "well w 9 5; man m w 3; man n w 4; secret s 2 m; secret t 3; tie m n; tells = 60;";
        String much = "thirst 1; salt 1; seed 1; fills = if 1 < 2 then 77 else 78; tells = 77; drinks = 77; well a 5 5; well b 5 5; man c b 9;"
            + "man d b 9; secret e 5 false c d; secret f 5 false c d; tie d c; tie d c;";
        for (String end : new String[] {"salt 100;", "well a 1 1;", "tie x d;", "secret g 0 false c;"}) {
            SecretWells x = new SecretWells();
            Due.feed(x, much + end);
            Due.due("a FAULT", x.read() > 0, true);
            Due.feed(x, good);
            Due.due("read()", x.read(), 0);
            x.days(1);
            SecretWells y = Due.of(good);
            y.days(1);
            Due.due("what there is", Due.probed(x), Due.probed(y));
        }
    }
}
