import java.io.IOException;
import java.nio.file.Files;
import java.nio.file.Path;
import java.util.Set;
import java.util.TreeSet;

/** What the tests of bounds share: each answer is due by a sentence of the document, which is told with it. */
final class Due {
    static final int MIN = Integer.MIN_VALUE;
    static final int MAX = Integer.MAX_VALUE;

    /** Two wells, three men: old (60 deeper) is ann's alone, two (20 deeper) ann's and bob's, all is everybody's. */
    static final String VILLAGE = "well pit 20 50; well low 10 5; man ann pit 5; man bob pit 6; man cid low 8;"
        + "secret old 6 ann; secret two 4 ann bob; secret lie 9 false cid; secret all 3 ann bob cid;"
        + "tie ann cid; tie cid bob; fills = 3; tells = if heavy < 5 then 100 else 0; thirst 3; salt 4;";

    /** As many of each sort as there may be. */
    static final String FULL = "well a 30 20; well b 0 0; well c 50 60; well d 999 999;"
        + "man p a 5; man q a 6; man r b 7; man s c 0; man t d 99; man u d 3; man v c 9;"
        + "secret aa 9 p; secret bb 5 p q; secret cc 7 false r; secret dd 3 p q r s t u v; secret ee 1 v; secret ff 99 s u;"
        + "secret gg 4; secret hh 6 t p u; tie p q; tie q r; tie r s; tie s t; tie t u; tie u v; tie v p; tie p v; tie v u; tie q p;"
        + "tie s q; tie p t; tells = 30 + heavy; fills = 3 + which; thirst 3; salt 4; seed 17;";

    private static final Set<String> SENTENCES = new TreeSet<>();
    private static String sentence = "";
    private static int wrong = 0;

    private Due() {
    }

    /** An object as a test wants it, always made anew. */
    interface Made {
        SecretWells made();
    }

    /** A call; a boolean answers 1 or 0. */
    interface Call {
        long on(SecretWells x);
    }

    /** The document's words by which the next answers are due. */
    static void sentence(String words) {
        sentence = words;
        SENTENCES.add(words);
    }

    static void due(String call, long got, long want) {
        if (got != want) {
            tell(call + " answered " + got + ", due is " + want);
        }
    }

    static void due(String call, boolean got, boolean want) {
        due(call, bit(got), bit(want));
    }

    static void due(String what, String got, String want) {
        if (!got.equals(want)) {
            tell(what + " is\n    " + got + ", due is\n    " + want);
        }
    }

    static long bit(boolean b) {
        return b ? 1 : 0;
    }

    private static void tell(String what) {
        wrong++;
        if (wrong <= 40) {
            String shown = what.length() > 900 ? what.substring(0, 450) + " .. " + what.substring(what.length() - 450) : what;
            System.out.println("'" + sentence + "': " + shown);
        }
    }

    static void end() {
        tellSentencesThatAreGone();
        System.out.println(wrong == 0 ? SENTENCES.size() + " sentences hold" : wrong + " answers are not as due");
        if (wrong != 0) {
            System.exit(1);
        }
    }

    /** Only told, so that another wording alone does not fail a test whose answers still hold. */
    private static void tellSentencesThatAreGone() {
        Path path = Path.of("../shared/DOC.md");
        if (!Files.exists(path)) {
            return;
        }
        try {
            String document = Files.readString(path).replaceAll("\\s+", " ");
            for (String words : SENTENCES) {
                if (!document.contains(words)) {
                    System.out.println("the document does not say: " + words);
                }
            }
        } catch (IOException e) {
            System.out.println("the document cannot be read: " + e);
        }
    }

    // ---- texts

    /** Puts just these bytes onto the tape. */
    static void feed(SecretWells x, String text) {
        int length = (text.length() + 19) / 20 * 20;
        for (int i = 0; i < length; i += 20) {
            int[] v = new int[5];
            for (int k = 0; k < 20; k++) {
                v[k / 4] = v[k / 4] << 8 | (i + k < text.length() ? text.charAt(i + k) & 255 : ' ');
            }
            x.feed(v[0], v[1], v[2], v[3], v[4]);
        }
        x.back(length - text.length());
    }

    static SecretWells of(String text) {
        SecretWells x = new SecretWells();
        feed(x, text);
        due("read() of " + text, x.read(), 0);
        return x;
    }

    /** An object in which all sorts of things have been done, TOLD and held, with bytes on its tape. */
    static SecretWells rich() {
        SecretWells x = eventful();
        x.feed(0x73616c74, 0x20333b20, 0x20202020, 0x20202020, 0x20202023);
        return x;
    }

    static SecretWells eventful() {
        return withEvents(of(VILLAGE));
    }

    /** The same things in the FULL text: somebody is dead behind them. */
    static SecretWells full() {
        SecretWells x = withEvents(of(FULL));
        x.days(1);
        due("p and r are dead", x.count(5), 122);
        return x;
    }

    private static SecretWells withEvents(SecretWells x) {
        x.note(0, 1, 80);
        x.note(1, 6, 30);
        x.whisper(0, 0, 0);
        x.hold(0);
        x.tell(0, 1, 0);
        x.drill(1, 1, 1);
        x.hold(2);
        x.go(0, 1);
        x.cut(1, true);
        x.days(2);
        return x;
    }

    /** A FAULT leaves all but the tape as it was; without one the text is in place of the one ahead. */
    static void fault(String text, int number, int place) {
        SecretWells x = eventful();
        feed(x, text);
        due("read() of " + text, x.read(), number);
        due("place() of " + text, x.place(), place);
        due("the tape behind " + text, x.count(8), 0);
        if (number != 0) {
            due("what there is behind " + text, probed(x), probed(eventful()));
        } else {
            due("the day behind " + text, x.count(4), 0);
            due("to undo behind " + text, x.count(9), 0);
            due("TOLD behind " + text, x.count(10), 0);
            due("SLOTS behind " + text, x.count(11), 0);
        }
    }

    static void good(String text) {
        fault(text, 0, -1);
    }

    static String times(int n, String word) {
        return word.repeat(n);
    }

    /** LOT by the document's words, in numbers that do not wrap by themselves. */
    static int lot(int n, int seed, int which) {
        long all = 0xffffffffL;
        long h = seed & all;
        for (long it : new long[] {49, which & all}) {
            h = ((h ^ it) * 1103515245L + 12345) & all;
            h ^= h >> 15;
        }
        return (int) ((h >> 1) % n);
    }

    // ---- what there is

    /** All that can be seen without a change; no more than some 100 calls for the VILLAGE. */
    static String shown(SecretWells x) {
        StringBuilder all = new StringBuilder("count");
        for (int what = 0; what < 14; what++) {
            all.append(' ').append(x.count(what));
        }
        for (int w = 0; w < x.count(0); w++) {
            all.append(" well");
            for (int what = 0; what < 6; what++) {
                all.append(' ').append(x.well(w, what));
            }
        }
        for (int m = 0; m < x.count(1); m++) {
            all.append(" man");
            for (int what = 0; what < 5; what++) {
                all.append(' ').append(x.man(m, what));
            }
        }
        for (int s = 0; s < x.count(2); s++) {
            all.append(" secret");
            for (int what = 0; what < 4; what++) {
                all.append(' ').append(x.secret(s, what));
            }
            all.append(' ').append(x.tells(0, s)).append(' ').append(x.tells(1, s));
        }
        all.append(" truth");
        for (int k = 0; k <= x.count(10) && k < 4; k++) {
            all.append(' ').append(x.truth(k, -1)).append(' ').append(x.truth(k, 0));
        }
        return all.append(" ahead ").append(x.first(0)).append(' ').append(x.first(1)).append(' ').append(x.deaths(2, 2)).toString();
    }

    private static String shortlyShown(SecretWells x) {
        StringBuilder some = new StringBuilder("\n    ");
        for (int what = 4; what < 13; what++) {
            some.append(' ').append(x.count(what));
        }
        return some.append(' ').append(x.well(0, 0)).append(' ').append(x.well(1, 0)).append(' ').append(x.man(0, 1)).append(' ')
            .append(x.man(0, 3)).append(' ').append(x.man(1, 3)).append(' ').append(x.man(2, 2)).toString();
    }

    /** What shows, what can be undone, what the SLOTS hold and what is on the tape; the object is used up by it. */
    static String probed(SecretWells x) {
        StringBuilder all = new StringBuilder(shown(x));
        for (int i = 0; i < 41 && x.undo(); i++) {
            if (i < 8) {
                all.append(shortlyShown(x));
            }
        }
        for (int slot = 0; slot < 3; slot++) {
            all.append(x.restore(slot) ? shortlyShown(x) : "\n    no slot");
        }
        return all.append("\n    tape ").append(x.read()).append(' ').append(x.place()).toString();
    }

    /** Nothing happens by the call, whatever it answers. */
    static void untouched(String call, Made made, Call asked) {
        SecretWells x = made.made();
        asked.on(x);
        due("what there is behind " + call, probed(x), probed(made.made()));
    }

    /** The call answers so, and nothing happens: all is as in an object that was not asked. */
    static void still(String call, Made made, Call asked, long want) {
        SecretWells x = made.made();
        due(call, asked.on(x), want);
        due("what there is behind " + call, probed(x), probed(made.made()));
    }
}
