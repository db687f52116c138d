import java.util.ArrayList;
import java.util.Arrays;
import java.util.HashMap;
import java.util.HashSet;
import java.util.List;
import java.util.Map;
import java.util.Random;
import java.util.Set;
import java.util.TreeMap;
import java.util.regex.Matcher;
import java.util.regex.Pattern;

/**
 * Random runs of calls against a second program, written from the document alone in the plainest way: laws are read
 * anew each time, depths summed anew each time, every way gone to its end. An optional argument is how many runs.
 */
public final class SecretWellsPlain {
    private static int wrong = 0;

    public static void main(String[] args) {
        int runs = args.length > 0 ? Integer.parseInt(args[0]) : 1500;
        long from = args.length > 1 ? Long.parseLong(args[1]) : 20261118L;
        Map<String, Integer> seen = new TreeMap<>();
        for (int run = 0; run < runs && wrong < 20; run++) {
            new Run(new Random(from + run), run, seen).go();
        }
        for (int run = 0; run < runs * 40 && wrong < 20; run++) {
            readOnly(new Random(from * 31 + run), run, seen);
        }
        if (args.length > 0) {
            seen.forEach((k, v) -> System.out.println(k + " " + v));
        }
        System.out.println(wrong == 0 ? "all answers are as the plain program's" : wrong + " answers are not");
        if (wrong != 0) {
            System.exit(1);
        }
    }

    private static void readOnly(Random random, int run, Map<String, Integer> seen) {
        String text = new Texts(random).text();
        text = new Texts(random).spoil(text);
        SecretWells x = new SecretWells();
        Plain plain = new Plain();
        feed(x, text);
        plain.tape = text;
        int due = plain.read();
        int got = x.read();
        int place = x.place();
        seen.merge("fault " + due, 1, Integer::sum);
        if (got != due || place != plain.place) {
            wrong++;
            System.out.println("text " + run + ": " + got + " at " + place + ", due " + due + " at " + plain.place + ": " + text);
        }
    }

    static void feed(SecretWells x, String text) {
        StringBuilder padded = new StringBuilder(text);
        while (padded.length() % 20 != 0) {
            padded.append(' ');
        }
        for (int i = 0; i < padded.length(); i += 20) {
            int[] v = new int[5];
            for (int k = 0; k < 20; k++) {
                v[k / 4] = v[k / 4] << 8 | padded.charAt(i + k) & 255;
            }
            x.feed(v[0], v[1], v[2], v[3], v[4]);
        }
        x.back(padded.length() - text.length());
    }

    /** One object and its plain one, side by side. */
    private static final class Run {
        private final Random random;
        private final int run;
        private final Map<String, Integer> seen;
        private final SecretWells x = new SecretWells();
        private final Plain p = new Plain();
        private String text = "";
        private final List<String> calls = new ArrayList<>();
        private int rainSet = 1;
        private int rainDays = 5;

        Run(Random random, int run, Map<String, Integer> seen) {
            this.random = random;
            this.run = run;
            this.seen = seen;
        }

        private int below(int n) {
            return random.nextInt(n);
        }

        /** Mostly a number from 0 to n - 1, now and then one beside. */
        private int about(int n) {
            int dice = below(40);
            if (dice == 0) {
                return -1 - below(3);
            }
            if (dice == 1) {
                return n + below(3);
            }
            if (dice == 2) {
                return random.nextInt();
            }
            return n > 0 ? below(n) : 0;
        }

        private int many(int most) {
            int dice = below(8);
            return dice == 0 ? about(most + 1) : below(Math.min(most, 12) + 1);
        }

        private void due(String call, int got, int due) {
            calls.add(call + " = " + due);
            String kind = call.substring(0, call.indexOf('('));
            seen.merge(kind + (due == -1 ? " NONE" : due == -2 ? " -2" : ""), 1, Integer::sum);
            if (got != due) {
                wrong++;
                System.out.println("run " + run + ": " + text + "\n  " + String.join("; ", calls) + " -- but answered " + got);
            }
        }

        private void due(String call, boolean got, boolean due) {
            due(call, got ? 1 : 0, due ? 1 : 0);
        }

        void go() {
            if (below(10) > 0) {
                newText();
            }
            int n = 20 + below(180);
            for (int i = 0; i < n && wrong < 20; i++) {
                if (below(150) == 0) {
                    newText();
                }
                int dice = below(100);
                if (dice < 25) {
                    act();
                } else if (dice < 60) {
                    look();
                } else if (dice < 85) {
                    ask();
                } else {
                    wonder();
                }
            }
            everything();
        }

        private void newText() {
            Texts texts = new Texts(random);
            text = texts.text();
            if (below(8) == 0) {
                text = texts.spoil(text);
            }
            feed(x, text);
            p.tape = text;
            due("read()", x.read(), p.read());
            due("place()", x.place(), p.place);
            everything();
        }

        private void act() {
            int man = about(p.men());
            int secret = about(p.secrets());
            int well = about(p.wells());
            int tie = about(p.ties());
            int other = about(p.men());
            for (int i = 0; i < 5 && man >= 0 && man < p.men() && (p.man(man, 0) == 0 || (p.man(man, 3) >> secret & 1) == 0); i++) {
                man = about(p.men());
                secret = about(p.secrets());
            }
            switch (below(10)) {
                case 0: case 1: {
                    int n = many(100);
                    due("days(" + n + ")", x.days(n), p.days(n));
                    break;
                }
                case 2: case 3:
                    due("whisper(" + man + ", " + secret + ", " + well + ")", x.whisper(man, secret, well), p.whisper(man, secret, well, 0));
                    break;
                case 4:
                    due("drill(" + man + ", " + secret + ", " + well + ")", x.drill(man, secret, well), p.whisper(man, secret, well, p.salt()));
                    break;
                case 5:
                    due("tell(" + man + ", " + other + ", " + secret + ")", x.tell(man, other, secret), p.tell(man, other, secret));
                    break;
                case 6:
                    due("go(" + man + ", " + well + ")", x.go(man, well), p.go(man, well));
                    break;
                case 7: {
                    boolean cut = random.nextBoolean();
                    due("cut(" + tie + ", " + cut + ")", x.cut(tie, cut), p.cut(tie, cut));
                    break;
                }
                case 8:
                    due("undo()", x.undo(), p.undo());
                    break;
                default: {
                    int slot = about(3);
                    if (random.nextBoolean()) {
                        due("hold(" + slot + ")", x.hold(slot), p.hold(slot));
                    } else {
                        due("restore(" + slot + ")", x.restore(slot), p.restore(slot));
                    }
                }
            }
        }

        private void look() {
            int what = about(6);
            int man = about(p.men());
            int secret = about(p.secrets());
            int well = about(p.wells());
            int tie = about(p.ties());
            switch (below(5)) {
                case 0: due("well(" + well + ", " + what + ")", x.well(well, what), p.well(well, what)); break;
                case 1: due("man(" + man + ", " + what + ")", x.man(man, what), p.man(man, what)); break;
                case 2: due("secret(" + secret + ", " + what + ")", x.secret(secret, what), p.secret(secret, what)); break;
                case 3: due("tells(" + tie + ", " + secret + ")", x.tells(tie, secret), p.tells(tie, secret)); break;
                default: {
                    int which = about(14);
                    due("count(" + which + ")", x.count(which), p.count(which));
                }
            }
        }

        private void everything() {
            for (int i = 0; i < 14; i++) {
                due("count(" + i + ")", x.count(i), p.count(i));
            }
            for (int what = 0; what < 6; what++) {
                for (int w = 0; w < p.wells(); w++) {
                    due("well(" + w + ", " + what + ")", x.well(w, what), p.well(w, what));
                }
                for (int m = 0; m < p.men(); m++) {
                    due("man(" + m + ", " + what + ")", x.man(m, what), p.man(m, what));
                }
                for (int s = 0; s < p.secrets(); s++) {
                    due("secret(" + s + ", " + what + ")", x.secret(s, what), p.secret(s, what));
                }
            }
        }

        private void ask() {
            int n = many(200);
            int what = about(3);
            int man = about(p.men());
            int other = about(p.men());
            int secret = about(p.secrets());
            int well = about(p.wells());
            switch (below(12)) {
                case 0: due("wellIn(" + well + ", " + n + ", " + what + ")", x.wellIn(well, n, what), p.wellIn(well, n, what)); break;
                case 1: due("manIn(" + man + ", " + n + ", " + what + ")", x.manIn(man, n, what), p.manIn(man, n, what)); break;
                case 2: due("dryBy(" + well + ")", x.dryBy(well), p.dryBy(well)); break;
                case 3: due("first(" + what + ")", x.first(what), p.first(what)); break;
                case 4: due("silence(" + secret + ", " + man + ", " + what + ")", x.silence(secret, man, what), p.silence(secret, man, what)); break;
                case 5: due("reach(" + secret + ")", x.reach(secret), p.reach(secret)); break;
                case 6: due("holds(" + man + ", " + other + ")", x.holds(man, other), p.holds(man, other)); break;
                case 7: due("rings()", x.rings(), p.rings()); break;
                case 8: {
                    int i = below(3) == 0 ? -1 : about(3);
                    due("quiet(" + well + ", " + i + ")", x.quiet(well, i), p.quiet(well, i));
                    break;
                }
                case 9: {
                    int s = about(21);
                    n = many(100);
                    due("odds(" + man + ", " + secret + ", " + n + ", " + s + ")", x.odds(man, secret, n, s), p.odds(man, secret, n, s));
                    break;
                }
                case 10: {
                    int s = about(21);
                    n = many(100);
                    due("deaths(" + n + ", " + s + ")", x.deaths(n, s), p.deaths(n, s));
                    break;
                }
                default: due("worth(" + secret + ")", x.worth(secret), p.worth(secret)); break;
            }
        }

        private void wonder() {
            switch (below(6)) {
                case 0: rain(); break;
                case 1: case 2: {
                    int well = about(p.wells());
                    int set = about(1 << p.secrets());
                    int deep = below(12) == 0 ? about(10000) : p.wouldBe(well, set, below(1 << p.secrets()));
                    due("note(" + well + ", " + set + ", " + deep + ")", x.note(well, set, deep), p.note(well, set, deep));
                    break;
                }
                case 3: {
                    int k = about(p.notes.size() + 1);
                    int i = below(3) == 0 ? -1 : about(4);
                    due("truth(" + k + ", " + i + ")", x.truth(k, i), p.truth(k, i));
                    break;
                }
                case 4: {
                    int k = about(p.notes.size() + 1);
                    boolean lies = random.nextBoolean();
                    due("sure(" + k + ", " + lies + ")", x.sure(k, lies), p.sure(k, lies));
                    int what = about(2);
                    due("next(" + k + ", " + what + ")", x.next(k, what), p.next(k, what));
                    break;
                }
                default:
                    if (below(6) == 0) {
                        due("forget()", x.forget(), p.forget());
                    }
            }
        }

        /** Often the same question as the last time, so that an answer that was kept too long is found. */
        private void rain() {
            if (below(2) == 0) {
                rainChanges();
            }
            askRain(rainSet, rainDays);
        }

        private void rainChanges() {
            int set = about(1 << p.secrets());
            for (int i = 0; i < 6 && Integer.bitCount(set) > 3 && below(20) > 0; i++) {
                set &= set - 1;
            }
            rainSet = set;
            rainDays = below(20) == 0 ? about(61) : 1 + below(10);
        }

        private void askRain(int set, int n) {
            int what = about(3);
            due("rain(" + set + ", " + n + ", " + what + ")", x.rain(set, n, what), p.rain(set, n, what));
            int i = about(Math.max(1, Integer.bitCount(set)));
            due("rainAt(" + set + ", " + n + ", " + i + ")", x.rainAt(set, n, i), p.rainAt(set, n, i));
        }
    }

    /** Makes texts, most of them good ones. */
    private static final class Texts {
        private static final String[] VARS = {"day", "deep", "wet", "dry", "know", "heavy", "with", "which"};
        private static final String[] ALL = {"well", "man", "secret", "false", "tie", "fills", "tells", "drinks", "thirst",
            "salt", "seed", "if", "then", "else", "day", "deep", "wet", "dry", "know", "heavy", "with", "which", ";", "=",
            "+", "-", "*", "/", "<", "(", ")", "a", "wa", "ma", "mb", "sa", "abcdefgh", "abcdefghi", "0", "7", "99", "100",
            "999", "1000", "9999", "12345", "A", "\u00e9", "\0", ",", "wellx"};
        private final Random random;
        private final boolean isDense;

        Texts(Random random) {
            this.random = random;
            isDense = random.nextInt(6) == 0;
        }

        private int below(int n) {
            return random.nextInt(n);
        }

        String text() {
            int wells = below(12) == 0 ? 0 : 1 + below(isDense ? 5 : 4);
            wells = Math.min(wells, below(60) == 0 ? 5 : 4);
            int men = wells == 0 ? 0 : Math.min(below(9), below(40) == 0 ? 8 : 7);
            int secrets = Math.min(below(10), below(40) == 0 ? 9 : 8);
            int ties = men < 2 ? 0 : Math.min(below(14), below(40) == 0 ? 13 : 12);
            List<String> tells = new ArrayList<>();
            for (int i = 0; i < wells; i++) {
                tells.add("well w" + letter(i) + " " + (below(3) == 0 ? below(1000) : below(60)) + " " + (below(3) == 0 ? below(1000) : below(50)) + ";");
            }
            for (int i = 0; i < men; i++) {
                tells.add("man m" + letter(i) + " w" + letter(below(wells)) + " " + (below(4) == 0 ? below(100) : below(12)) + ";");
            }
            for (int i = 0; i < secrets; i++) {
                StringBuilder tell = new StringBuilder("secret s" + letter(i) + " " + (1 + below(below(3) == 0 ? 99 : 9)) + (below(4) == 0 ? " false" : ""));
                for (int m = 0; m < men; m++) {
                    if (below(5) < 2) {
                        tell.append(" m").append(letter(m));
                    }
                }
                tells.add(tell.append(";").toString());
            }
            for (int i = 0; i < ties; i++) {
                int from = below(men);
                int to = (from + 1 + below(men - 1)) % men;
                tells.add("tie m" + letter(from) + " m" + letter(to) + ";");
            }
            others(tells);
            return String.join(below(2) == 0 ? " " : "\n", tells) + (below(3) == 0 ? "  \r" : "");
        }

        private void others(List<String> tells) {
            if (below(4) > 0) {
                tells.add("fills = " + law(20) + ";");
            }
            if (below(4) > 0) {
                tells.add("tells = " + law(120) + ";");
            }
            if (below(2) == 0) {
                tells.add("drinks=" + law(12) + ";");
            }
            if (below(8) == 0) {
                tells.add("tells = " + law(120) + ";");
            }
            if (below(3) > 0) {
                tells.add(0, "thirst " + (1 + below(6)) + ";");
            }
            if (below(2) == 0) {
                tells.add("salt " + below(100) + ";");
            }
            if (below(2) == 0) {
                tells.add("seed " + below(10000) + ";");
            }
        }

        private static char letter(int i) {
            return (char) ('a' + i);
        }

        private String law(int most) {
            StringBuilder law = new StringBuilder();
            int ifs = below(3) == 0 ? below(5) : below(2);
            if (below(60) == 0) {
                ifs = 5;
            }
            for (int i = 0; i < ifs; i++) {
                law.append("if ").append(sum(most, 0)).append(" < ").append(sum(most, 0)).append(" then ").append(sum(most, 0)).append(" else ");
            }
            return law.append(sum(most, 0)).toString();
        }

        private String sum(int most, int deep) {
            StringBuilder sum = new StringBuilder(part(most, deep));
            for (int n = below(3); n > 0; n--) {
                sum.append(below(2) == 0 ? "+" : " - ").append(part(most, deep));
            }
            return sum.toString();
        }

        private String part(int most, int deep) {
            StringBuilder part = new StringBuilder(unit(most, deep));
            while (below(4) == 0) {
                part.append(below(2) == 0 ? "*" : "/").append(unit(most, deep));
            }
            return part.toString();
        }

        private String unit(int most, int deep) {
            int dice = below(8);
            if (dice == 0 && deep < 6 || deep > 0 && deep < 7 && below(50) == 0) {
                return "(" + sum(most, deep + 1) + ")";
            }
            if (dice < 4) {
                return VARS[below(VARS.length)];
            }
            return below(12) == 0 ? "" + below(10000) : "" + below(most);
        }

        /** A NAME in place of a NAME, an INT in place of an INT: what is left is a matter of meaning. */
        private void swapAlike(List<String> words) {
            for (int n = 1 + below(4); n > 0; n--) {
                int at = below(words.size());
                String other = words.get(below(words.size()));
                if (words.get(at).matches("[0-9]{1,4}")) {
                    words.set(at, "" + (below(2) == 0 ? below(10000) : below(2) == 0 ? 100 : 0));
                } else if (Reading.isName(words.get(at)) && Reading.isName(other)) {
                    words.set(at, other);
                } else {
                    n += below(9) == 0 ? 0 : 1;
                }
            }
        }

        String spoil(String text) {
            List<String> words = new ArrayList<>(Arrays.asList(text.replaceAll("([;=+*/<()-])", " $1 ").trim().split("[ \n\r]+")));
            if (below(2) == 0) {
                swapAlike(words);
                return String.join(" ", words);
            }
            for (int n = 1 + below(3); n > 0; n--) {
                int at = below(words.size());
                switch (below(6)) {
                    case 0: words.remove(at); break;
                    case 1: words.add(at, ALL[below(ALL.length)]); break;
                    case 2: words.set(at, words.get(below(words.size()))); break;
                    case 3: words.set(at, ALL[below(ALL.length)]); break;
                    case 4:
                        if (words.get(at).matches("[0-9]+")) {
                            words.set(at, "" + (below(2) == 0 ? below(10000) : 100));
                        }
                        break;
                    default:
                        if (below(4) == 0) {
                            words = new ArrayList<>(words.subList(0, at + 1));
                        }
                }
                if (words.isEmpty()) {
                    words.add("");
                }
            }
            if (below(40) == 0) {
                StringBuilder law = new StringBuilder("fills = 1");
                while (law.length() < 900) {
                    law.append("+").append(below(9) == 0 ? "(2)" : "3");
                }
                words.add(below(2) == 0 ? 0 : words.size(), law + ";");
            }
            String joined = String.join(" ", words);
            return joined.length() > 2000 ? joined.substring(0, 2000) : joined;
        }
    }

    private static final class Fault extends RuntimeException {
        private static final long serialVersionUID = 1L;
        final int number;
        final int place;

        Fault(int number, int place) {
            this.number = number;
            this.place = place;
        }
    }

    private record Token(String word, int place) {
    }

    private record Note(int well, int set, int deep) {
    }

    private record Law(List<Token> tokens) {
    }

    /** What a text tells. */
    private static final class World {
        final List<int[]> wells = new ArrayList<>();
        final List<int[]> men = new ArrayList<>();
        final List<int[]> secrets = new ArrayList<>();
        final List<Set<Integer>> knowers = new ArrayList<>();
        final List<int[]> ties = new ArrayList<>();
        final Map<String, Law> laws = new HashMap<>();
        int thirst = 9;
        int salt = 10;
        int seed = 0;
    }

    /** What goes on. */
    private static final class Now {
        int day = 0;
        int whispers = 0;
        boolean[] dead;
        int[] thirst;
        int[] home;
        int[] water;
        int[] into;
        boolean[] cut;
        List<Set<Integer>> knowers = new ArrayList<>();

        Now copy() {
            Now c = new Now();
            c.day = day;
            c.whispers = whispers;
            c.dead = dead.clone();
            c.thirst = thirst.clone();
            c.home = home.clone();
            c.water = water.clone();
            c.into = into.clone();
            c.cut = cut.clone();
            for (Set<Integer> set : knowers) {
                c.knowers.add(new HashSet<>(set));
            }
            return c;
        }
    }

    /** Reads a text: by descent, with a Fault thrown where it is found. */
    private static final class Reading {
        private static final Pattern TOKEN = Pattern.compile("[a-z]+|[0-9]+|[;=+*/<()-]|[^ \t\n\r]");
        private static final Set<String> WORDS = Set.of("well", "man", "secret", "false", "tie", "fills", "tells", "drinks",
            "thirst", "salt", "seed", "if", "then", "else", "day", "deep", "wet", "dry", "know", "heavy", "with", "which");
        private static final Set<String> VARS = Set.of("day", "deep", "wet", "dry", "know", "heavy", "with", "which");
        private final List<Token> tokens = new ArrayList<>();
        private final List<List<Token>> tells = new ArrayList<>();
        private final int end;
        private int at = 0;

        Reading(String text) {
            Matcher m = TOKEN.matcher(text);
            while (m.find()) {
                tokens.add(new Token(m.group(), m.start()));
            }
            end = text.length();
        }

        static boolean isName(String word) {
            return word.matches("[a-z]{1,8}") && !WORDS.contains(word);
        }

        static boolean isInt(String word) {
            return word.matches("[0-9]{1,4}");
        }

        private String peek() {
            return at < tokens.size() ? tokens.get(at).word() : "";
        }

        private int place() {
            return at < tokens.size() ? tokens.get(at).place() : end;
        }

        private void syntax() {
            throw new Fault(1, place());
        }

        private void next(boolean isRight) {
            if (!isRight || at >= tokens.size()) {
                syntax();
            }
            if (at == 400) {
                throw new Fault(2, place());
            }
            at++;
        }

        private void next(String word) {
            next(peek().equals(word));
        }

        void shape() {
            Map<String, Integer> told = new HashMap<>();
            Map<String, Integer> most = Map.of("well", 4, "man", 7, "secret", 8, "tie", 12);
            while (at < tokens.size()) {
                int from = at;
                String word = peek();
                if (most.containsKey(word) && told.merge(word, 1, Integer::sum) > most.get(word)) {
                    throw new Fault(2, place());
                }
                switch (word) {
                    case "well": next(true); next(isName(peek())); next(isInt(peek())); next(isInt(peek())); break;
                    case "man": next(true); next(isName(peek())); next(isName(peek())); next(isInt(peek())); break;
                    case "secret":
                        next(true); next(isName(peek())); next(isInt(peek()));
                        if (peek().equals("false")) {
                            next(true);
                        }
                        while (isName(peek())) {
                            next(true);
                        }
                        break;
                    case "tie": next(true); next(isName(peek())); next(isName(peek())); break;
                    case "fills": case "tells": case "drinks": next(true); law(); break;
                    case "thirst": case "salt": case "seed": next(true); next(isInt(peek())); break;
                    default: syntax();
                }
                next(";");
                tells.add(tokens.subList(from, at));
            }
        }

        private void law() {
            next("=");
            for (int ifs = 1; peek().equals("if"); ifs++) {
                if (ifs == 5) {
                    throw new Fault(2, place());
                }
                next("if");
                sum(0);
                next("<");
                sum(0);
                next("then");
                sum(0);
                next("else");
            }
            sum(0);
        }

        private void sum(int open) {
            part(open);
            while (peek().equals("+") || peek().equals("-")) {
                next(true);
                part(open);
            }
        }

        private void part(int open) {
            unit(open);
            while (peek().equals("*") || peek().equals("/")) {
                next(true);
                unit(open);
            }
        }

        private void unit(int open) {
            if (peek().equals("(")) {
                if (open == 6) {
                    throw new Fault(2, place());
                }
                next("(");
                sum(open + 1);
                next(")");
            } else {
                next(isInt(peek()) || VARS.contains(peek()));
            }
        }

        World meaning() {
            World world = new World();
            Map<String, Integer> wells = new HashMap<>();
            Map<String, Integer> men = new HashMap<>();
            Set<String> all = new HashSet<>();
            for (List<Token> tell : tells) {
                switch (tell.get(0).word()) {
                    case "well":
                        fresh(all, tell.get(1));
                        wells.put(tell.get(1).word(), world.wells.size());
                        world.wells.add(new int[] {number(tell.get(2), 0, 999), number(tell.get(3), 0, 999)});
                        break;
                    case "man":
                        fresh(all, tell.get(1));
                        int home = old(wells, tell.get(2));
                        men.put(tell.get(1).word(), world.men.size());
                        world.men.add(new int[] {home, number(tell.get(3), 0, 99)});
                        break;
                    case "secret": {
                        fresh(all, tell.get(1));
                        int heavy = number(tell.get(2), 1, 99);
                        int i = 3;
                        boolean lie = tell.get(3).word().equals("false");
                        Set<Integer> knowers = new HashSet<>();
                        for (i += lie ? 1 : 0; !tell.get(i).word().equals(";"); i++) {
                            if (!knowers.add(old(men, tell.get(i)))) {
                                throw new Fault(3, tell.get(i).place());
                            }
                        }
                        world.secrets.add(new int[] {heavy, lie ? 1 : 0});
                        world.knowers.add(knowers);
                        break;
                    }
                    case "tie": {
                        int from = old(men, tell.get(1));
                        int to = old(men, tell.get(2));
                        if (from == to) {
                            throw new Fault(3, tell.get(2).place());
                        }
                        world.ties.add(new int[] {from, to});
                        break;
                    }
                    case "thirst": world.thirst = number(tell.get(1), 1, 99); break;
                    case "salt": world.salt = number(tell.get(1), 0, 99); break;
                    case "seed": world.seed = number(tell.get(1), 0, 9999); break;
                    default: world.laws.put(tell.get(0).word(), new Law(tell.subList(2, tell.size())));
                }
            }
            return world;
        }

        private static void fresh(Set<String> all, Token name) {
            if (!all.add(name.word())) {
                throw new Fault(3, name.place());
            }
        }

        private static int old(Map<String, Integer> names, Token name) {
            Integer number = names.get(name.word());
            if (number == null) {
                throw new Fault(4, name.place());
            }
            return number;
        }

        private static int number(Token token, int least, int most) {
            int number = Integer.parseInt(token.word());
            if (number < least || number > most) {
                throw new Fault(5, token.place());
            }
            return number;
        }
    }

    /** Tells a law by reading it; what is not looked at is skipped. */
    private static final class Telling {
        private final List<Token> tokens;
        private final Map<String, Integer> vars;
        private int at = 0;
        private boolean byZero = false;

        Telling(Law law, Map<String, Integer> vars) {
            tokens = law.tokens();
            this.vars = vars;
        }

        int value() {
            while (tokens.get(at).word().equals("if")) {
                at++;
                int left = sum();
                at++;
                int right = sum();
                at++;
                boolean ahead = byZero;
                int then = sum();
                at++;
                if (ahead) {
                    return 0;
                }
                if (left < right) {
                    return byZero ? 0 : then;
                }
                byZero = false;
            }
            int last = sum();
            return byZero ? 0 : last;
        }

        private int sum() {
            int value = part();
            while (tokens.get(at).word().equals("+") || tokens.get(at).word().equals("-")) {
                boolean plus = tokens.get(at++).word().equals("+");
                int other = part();
                value = plus ? value + other : value - other;
            }
            return value;
        }

        private int part() {
            int value = unit();
            while (tokens.get(at).word().equals("*") || tokens.get(at).word().equals("/")) {
                boolean times = tokens.get(at++).word().equals("*");
                int other = unit();
                if (times) {
                    value *= other;
                } else if (other == 0) {
                    byZero = true;
                } else {
                    value /= other;
                }
            }
            return value;
        }

        private int unit() {
            String word = tokens.get(at++).word();
            if (word.equals("(")) {
                int value = sum();
                at++;
                return value;
            }
            return vars.containsKey(word) ? vars.get(word) : Integer.parseInt(word);
        }
    }

    /** The plain program. */
    private static final class Plain {
        String tape = "";
        int place = -1;
        World world = new World();
        Now now = start();
        List<Now> done = new ArrayList<>();
        Now[] slots = new Now[3];
        final List<Note> notes = new ArrayList<>();

        int wells() {
            return world.wells.size();
        }

        int men() {
            return world.men.size();
        }

        int secrets() {
            return world.secrets.size();
        }

        int ties() {
            return world.ties.size();
        }

        int salt() {
            return world.salt;
        }

        int read() {
            String text = tape;
            tape = "";
            place = -1;
            try {
                Reading reading = new Reading(text);
                reading.shape();
                world = reading.meaning();
            } catch (Fault fault) {
                place = fault.place;
                return fault.number;
            }
            now = start();
            done.clear();
            notes.clear();
            slots = new Now[3];
            return 0;
        }

        private Now start() {
            Now n = new Now();
            n.dead = new boolean[men()];
            n.thirst = new int[men()];
            n.home = new int[men()];
            n.water = new int[wells()];
            n.into = new int[secrets()];
            n.cut = new boolean[ties()];
            Arrays.fill(n.into, -2);
            for (int m = 0; m < men(); m++) {
                n.home[m] = world.men.get(m)[0];
            }
            for (Set<Integer> set : world.knowers) {
                n.knowers.add(new HashSet<>(set));
            }
            for (int w = 0; w < wells(); w++) {
                n.water[w] = Math.min(world.wells.get(w)[1], world.wells.get(w)[0]);
            }
            return n;
        }

        private int alive(Now n) {
            int bits = 0;
            for (int m = 0; m < men(); m++) {
                bits |= n.dead[m] ? 0 : 1 << m;
            }
            return bits;
        }

        private int known(Now n, int s) {
            int k = 0;
            for (int m : n.knowers.get(s)) {
                k += n.dead[m] ? 0 : 1;
            }
            return k;
        }

        /** How much deeper it makes the WELL it is whispered into, as if it were in one. */
        private int adds(Now n, int s, boolean isFalse) {
            int k = known(n, s);
            int living = Integer.bitCount(alive(n));
            boolean isOpen = k == living && k != 1;
            return isFalse || k == 0 || isOpen ? 0 : world.secrets.get(s)[0] * 10 / k;
        }

        private boolean isFalse(int s) {
            return world.secrets.get(s)[1] == 1;
        }

        private int deep(Now n, int w) {
            int deep = world.wells.get(w)[0];
            for (int s = 0; s < secrets(); s++) {
                deep += n.into[s] == w ? adds(n, s, isFalse(s)) : 0;
            }
            return deep;
        }

        private int with(Now n, int w) {
            int bits = 0;
            for (int m = 0; m < men(); m++) {
                bits |= !n.dead[m] && n.home[m] == w ? 1 << m : 0;
            }
            return bits;
        }

        private int knows(Now n, int m) {
            int bits = 0;
            for (int s = 0; s < secrets(); s++) {
                bits |= n.knowers.get(s).contains(m) ? 1 << s : 0;
            }
            return bits;
        }

        private int holding(Now n, int w) {
            int bits = 0;
            for (int s = 0; s < secrets(); s++) {
                bits |= n.into[s] == w && adds(n, s, isFalse(s)) > 0 ? 1 << s : 0;
            }
            return bits;
        }

        private int law(String which, Now n, int w, int[] dryKnowHeavyWhich, int unless, int most) {
            Law law = world.laws.get(which);
            if (law == null) {
                return unless;
            }
            Map<String, Integer> vars = new HashMap<>();
            vars.put("day", n.day);
            vars.put("deep", deep(n, w));
            vars.put("wet", n.water[w]);
            vars.put("dry", dryKnowHeavyWhich[0]);
            vars.put("know", dryKnowHeavyWhich[1]);
            vars.put("heavy", dryKnowHeavyWhich[2]);
            vars.put("with", Integer.bitCount(with(n, w)));
            vars.put("which", dryKnowHeavyWhich[3]);
            int value = new Telling(law, vars).value();
            return value < 0 ? 0 : value > most ? most : value;
        }

        private int fills(Now n, int w) {
            return law("fills", n, w, new int[] {0, Integer.bitCount(holding(n, w)), 0, w}, 10, 999);
        }

        private int drinks(Now n, int m) {
            return law("drinks", n, n.home[m], new int[] {n.thirst[m], Integer.bitCount(knows(n, m)), 0, m}, world.men.get(m)[1], 99);
        }

        private int tells(Now n, int t, int s) {
            int m = world.ties.get(t)[0];
            return law("tells", n, n.home[m], new int[] {n.thirst[m], Integer.bitCount(knows(n, m)), world.secrets.get(s)[0], t}, 0, 100);
        }

        private void settle(Now n) {
            for (int w = 0; w < wells(); w++) {
                if (n.water[w] > deep(n, w)) {
                    n.water[w] = deep(n, w);
                }
            }
        }

        static int lot(int n, int seed, int which) {
            int h = seed;
            for (int it : new int[] {49, which}) {
                h = (h ^ it) * 1103515245 + 12345;
                h = h ^ (h >>> 15);
            }
            return (h >>> 1) % n;
        }

        private void day(Now n, int seed) {
            for (int w = 0; w < wells(); w++) {
                int water = n.water[w] + fills(n, w);
                n.water[w] = Math.min(water, deep(n, w));
            }
            for (int m = 0; m < men(); m++) {
                if (n.dead[m]) {
                    continue;
                }
                int wants = drinks(n, m);
                int w = n.home[m];
                if (n.water[w] >= wants) {
                    n.water[w] -= wants;
                    n.thirst[m] = 0;
                } else {
                    n.water[w] = 0;
                    n.thirst[m]++;
                    n.dead[m] = n.thirst[m] >= world.thirst;
                }
            }
            Now ahead = n.copy();
            for (int t = 0; t < ties(); t++) {
                int from = world.ties.get(t)[0];
                int to = world.ties.get(t)[1];
                for (int s = 0; s < secrets(); s++) {
                    if (n.cut[t] || n.dead[from] || n.dead[to] || !ahead.knowers.get(s).contains(from) || n.knowers.get(s).contains(to)) {
                        continue;
                    }
                    if (lot(100, seed, 128 * n.day + 8 * t + s) < tells(n, t, s)) {
                        n.knowers.get(s).add(to);
                    }
                }
            }
            settle(n);
            n.day++;
        }

        private Now in(int n, int seed) {
            Now then = now.copy();
            for (int i = 0; i < n; i++) {
                day(then, seed);
            }
            return then;
        }

        private static boolean no(int i, int size) {
            return i < 0 || i >= size;
        }

        private static int bits(Set<Integer> set) {
            int bits = 0;
            for (int i : set) {
                bits |= 1 << i;
            }
            return bits;
        }

        int well(int w, int what) {
            if (no(w, wells()) || no(what, 6)) {
                return -1;
            }
            int in = 0;
            for (int s = 0; s < secrets(); s++) {
                in |= now.into[s] == w ? 1 << s : 0;
            }
            return new int[] {deep(now, w), now.water[w], in, holding(now, w), with(now, w), fills(now, w)}[what];
        }

        int man(int m, int what) {
            if (no(m, men()) || no(what, 5)) {
                return -1;
            }
            return new int[] {now.dead[m] ? 0 : 1, now.home[m], now.thirst[m], knows(now, m), now.dead[m] ? 0 : drinks(now, m)}[what];
        }

        int secret(int s, int what) {
            if (no(s, secrets()) || no(what, 4)) {
                return -1;
            }
            int adds = now.into[s] < 0 ? 0 : adds(now, s, isFalse(s));
            return new int[] {bits(now.knowers.get(s)), known(now, s), now.into[s], adds}[what];
        }

        int tells(int t, int s) {
            if (no(t, ties()) || no(s, secrets())) {
                return -1;
            }
            boolean dead = now.dead[world.ties.get(t)[0]] || now.dead[world.ties.get(t)[1]];
            return dead ? -2 : tells(now, t, s);
        }

        private void keep() {
            done.add(now.copy());
            if (done.size() > 40) {
                done.remove(0);
            }
        }

        int days(int n) {
            if (no(n, 101)) {
                return -1;
            }
            if (n > 0) {
                keep();
                now = in(n, world.seed);
            }
            return now.day;
        }

        int whisper(int m, int s, int w, int salt) {
            if (no(m, men()) || no(s, secrets()) || no(w, wells())) {
                return -1;
            }
            if (now.dead[m] || !now.knowers.get(s).contains(m) || now.into[s] == w) {
                return -2;
            }
            keep();
            now.whispers++;
            now.into[s] = w;
            now.water[w] = now.water[w] < salt ? 0 : now.water[w] - salt;
            settle(now);
            return deep(now, w);
        }

        boolean tell(int m, int other, int s) {
            if (no(m, men()) || no(other, men()) || no(s, secrets()) || now.dead[m] || now.dead[other]) {
                return false;
            }
            if (!now.knowers.get(s).contains(m) || now.knowers.get(s).contains(other)) {
                return false;
            }
            keep();
            now.knowers.get(s).add(other);
            settle(now);
            return true;
        }

        boolean go(int m, int w) {
            if (no(m, men()) || no(w, wells()) || now.dead[m] || now.home[m] == w) {
                return false;
            }
            keep();
            now.home[m] = w;
            return true;
        }

        boolean cut(int t, boolean cut) {
            if (no(t, ties()) || now.cut[t] == cut) {
                return false;
            }
            keep();
            now.cut[t] = cut;
            return true;
        }

        boolean undo() {
            if (done.isEmpty()) {
                return false;
            }
            now = done.remove(done.size() - 1);
            return true;
        }

        boolean hold(int slot) {
            if (no(slot, 3)) {
                return false;
            }
            slots[slot] = now.copy();
            return true;
        }

        boolean restore(int slot) {
            if (no(slot, 3) || slots[slot] == null) {
                return false;
            }
            now = slots[slot].copy();
            done.clear();
            return true;
        }

        int count(int what) {
            if (no(what, 14)) {
                return -1;
            }
            int cuts = 0;
            for (int t = 0; t < ties(); t++) {
                cuts |= now.cut[t] ? 1 << t : 0;
            }
            int held = 0;
            for (Now slot : slots) {
                held += slot == null ? 0 : 1;
            }
            int lies = 0;
            for (int s = 0; s < secrets(); s++) {
                lies |= isFalse(s) ? 1 << s : 0;
            }
            return new int[] {wells(), men(), secrets(), ties(), now.day, alive(now), cuts, now.whispers, tape.length(),
                done.size(), notes.size(), held, Arrays.stream(now.water).sum(), lies}[what];
        }

        int wellIn(int w, int n, int what) {
            if (no(w, wells()) || no(n, 201) || no(what, 2)) {
                return -1;
            }
            Now then = in(n, world.seed);
            return what == 0 ? deep(then, w) : then.water[w];
        }

        int manIn(int m, int n, int what) {
            if (no(m, men()) || no(n, 201) || no(what, 3)) {
                return -1;
            }
            Now then = in(n, world.seed);
            return new int[] {then.dead[m] ? 0 : 1, then.thirst[m], knows(then, m)}[what];
        }

        int dryBy(int w) {
            if (no(w, wells())) {
                return -1;
            }
            Now then = now.copy();
            for (int n = 0; n <= 200; n++) {
                if (then.water[w] == 0) {
                    return n;
                }
                day(then, world.seed);
            }
            return -2;
        }

        int first(int what) {
            if (no(what, 2)) {
                return -1;
            }
            Now then = now.copy();
            for (int n = 1; n <= 200; n++) {
                day(then, world.seed);
                for (int m = 0; m < men(); m++) {
                    if (then.dead[m] && !now.dead[m]) {
                        return what == 0 ? m : n;
                    }
                }
            }
            return -2;
        }

        /** The best way: how many die, THIRST, whispers, then each SECRET's WELL (-3: left), compared as rows. */
        private int[] bestRain(List<Integer> set, int n, int i, int[] way) {
            if (i == set.size()) {
                return ended(set, n, way);
            }
            int[] best = null;
            boolean none = known(now, set.get(i)) == 0;
            for (int w = -1; w < (none ? 0 : wells()); w++) {
                way[i] = w < 0 ? -3 : w;
                int[] found = bestRain(set, n, i + 1, way);
                if (best == null || Arrays.compare(found, best) < 0) {
                    best = found;
                }
            }
            return best;
        }

        private int[] ended(List<Integer> set, int n, int[] way) {
            Now then = now.copy();
            int[] row = new int[3 + way.length];
            for (int i = 0; i < way.length; i++) {
                row[3 + i] = way[i];
                if (way[i] >= 0) {
                    row[2]++;
                    then.into[set.get(i)] = way[i];
                    settle(then);
                }
            }
            for (int d = 0; d < n; d++) {
                day(then, world.seed);
            }
            for (int m = 0; m < men(); m++) {
                row[0] += then.dead[m] && !now.dead[m] ? 1 : 0;
                row[1] += then.dead[m] ? 0 : then.thirst[m];
            }
            return row;
        }

        private List<Integer> listOf(int set) {
            List<Integer> list = new ArrayList<>();
            for (int s = 0; s < 31; s++) {
                if ((set >> s & 1) != 0) {
                    list.add(s);
                }
            }
            return list;
        }

        private boolean noRain(int set, int n) {
            return no(set, 1 << secrets()) || set == 0 || listOf(set).size() > 4 || n < 1 || n > 60;
        }

        private int[] rain(int set, int n) {
            List<Integer> list = listOf(set);
            return bestRain(list, n, 0, new int[list.size()]);
        }

        int rain(int set, int n, int what) {
            if (noRain(set, n) || no(what, 3)) {
                return -1;
            }
            return wells() == 0 ? -2 : rain(set, n)[what];
        }

        int rainAt(int set, int n, int i) {
            if (noRain(set, n) || no(i, listOf(set).size())) {
                return -1;
            }
            return wells() == 0 ? -2 : rain(set, n)[3 + i];
        }

        private int reached(int s, int without) {
            int from = bits(now.knowers.get(s)) & alive(now);
            while (true) {
                int ahead = from;
                for (int t = 0; t < ties(); t++) {
                    int a = world.ties.get(t)[0];
                    int b = world.ties.get(t)[1];
                    if (!now.cut[t] && (without >> t & 1) == 0 && !now.dead[a] && !now.dead[b] && (from >> a & 1) != 0) {
                        from |= 1 << b;
                    }
                }
                if (from == ahead) {
                    return from;
                }
            }
        }

        int silence(int s, int m, int what) {
            if (no(s, secrets()) || no(m, men()) || no(what, 2)) {
                return -1;
            }
            if (now.dead[m] || now.knowers.get(s).contains(m)) {
                return -2;
            }
            for (int size = 0; ; size++) {
                for (int cuts = 0; cuts < 1 << ties(); cuts++) {
                    if (Integer.bitCount(cuts) == size && (reached(s, cuts) >> m & 1) == 0) {
                        return what == 0 ? size : cuts;
                    }
                }
            }
        }

        int reach(int s) {
            return no(s, secrets()) ? -1 : reached(s, 0);
        }

        int holds(int m, int other) {
            if (no(m, men()) || no(other, men()) || m == other) {
                return -1;
            }
            int just = 0;
            for (int s = 0; s < secrets(); s++) {
                just += (bits(now.knowers.get(s)) & alive(now)) == (1 << m | 1 << other) ? 1 : 0;
            }
            return just;
        }

        int rings() {
            int pairs = 0;
            for (int m = 0; m < men(); m++) {
                for (int other = 0; other < m; other++) {
                    pairs += holds(m, other) > 0 ? 1 : 0;
                }
            }
            return pairs;
        }

        private int has(int w, Map<Integer, Integer> may, int set, int m) {
            Set<Integer> whispered = new HashSet<>();
            int not = 0;
            for (int man : may.keySet()) {
                if ((set >> man & 1) != 0) {
                    whispered.add(may.get(man));
                } else {
                    not++;
                }
            }
            Now then = now.copy();
            for (int s : whispered) {
                then.into[s] = w;
            }
            int has = now.home[m] == w ? deep(then, w) / Integer.bitCount(with(now, w)) : 0;
            return (set >> m & 1) != 0 ? has - 5 * not : has;
        }

        int quiet(int w, int i) {
            if (no(w, wells()) || i < -1) {
                return -1;
            }
            Map<Integer, Integer> may = new HashMap<>();
            for (int m = 0; m < men(); m++) {
                for (int s = 0; s < secrets(); s++) {
                    boolean can = !now.dead[m] && now.knowers.get(s).contains(m) && now.into[s] < 0 && adds(now, s, isFalse(s)) > 0;
                    if (can && (!may.containsKey(m) || world.secrets.get(may.get(m))[0] < world.secrets.get(s)[0])) {
                        may.put(m, s);
                    }
                }
            }
            List<Integer> rests = new ArrayList<>();
            for (int set = 0; set < 1 << men(); set++) {
                boolean isRest = (set & ~bits(may.keySet())) == 0;
                for (int m : may.keySet()) {
                    isRest = isRest && has(w, may, set ^ 1 << m, m) <= has(w, may, set, m);
                }
                if (isRest) {
                    rests.add(set);
                }
            }
            return i == -1 ? rests.size() : i < rests.size() ? rests.get(i) : -1;
        }

        int odds(int m, int s, int n, int seeds) {
            if (no(m, men()) || no(s, secrets()) || no(n, 101) || seeds < 1 || seeds > 20) {
                return -1;
            }
            int odds = 0;
            for (int i = 0; i < seeds; i++) {
                odds += in(n, world.seed + i).knowers.get(s).contains(m) ? 1 : 0;
            }
            return odds;
        }

        int deaths(int n, int seeds) {
            if (no(n, 101) || seeds < 1 || seeds > 20) {
                return -1;
            }
            int dead = 0;
            for (int i = 0; i < seeds; i++) {
                dead += men() - Integer.bitCount(alive(in(n, world.seed + i)));
            }
            return dead;
        }

        int worth(int s) {
            if (no(s, secrets())) {
                return -1;
            }
            if (now.into[s] < 0 || isFalse(s) || known(now, s) == 0) {
                return 0;
            }
            Now then = now.copy();
            int m = Integer.numberOfTrailingZeros(bits(now.knowers.get(s)) & alive(now));
            then.knowers.get(s).clear();
            then.knowers.get(s).add(m);
            return deep(then, now.into[s]) - deep(now, now.into[s]);
        }

        /** How DEEP on day 0, if just the set is whispered into it and just these are true. */
        int wouldBe(int w, int set, int trueOnes) {
            if (no(w, wells())) {
                return 0;
            }
            Now then = start();
            int deep = world.wells.get(w)[0];
            for (int s = 0; s < secrets(); s++) {
                deep += (set >> s & 1) != 0 ? adds(then, s, (trueOnes >> s & 1) == 0) : 0;
            }
            return deep;
        }

        int note(int w, int set, int deep) {
            if (notes.size() == 20 || no(w, wells()) || no(set, 1 << secrets()) || no(deep, 10000)) {
                return -1;
            }
            notes.add(new Note(w, set, deep));
            return notes.size() - 1;
        }

        int forget() {
            int were = notes.size();
            notes.clear();
            return were;
        }

        private List<Integer> trueOnes(int k) {
            List<Integer> all = new ArrayList<>();
            for (int set = 0; set < 1 << secrets(); set++) {
                boolean is = true;
                for (Note note : notes.subList(0, k)) {
                    is = is && wouldBe(note.well(), note.set(), set) == note.deep();
                }
                if (is) {
                    all.add(set);
                }
            }
            return all;
        }

        int truth(int k, int i) {
            if (no(k, notes.size() + 1) || i < -1) {
                return -1;
            }
            List<Integer> all = trueOnes(k);
            return i == -1 ? all.size() : i < all.size() ? all.get(i) : -1;
        }

        int sure(int k, boolean lies) {
            if (no(k, notes.size() + 1)) {
                return -1;
            }
            List<Integer> all = trueOnes(k);
            int sure = 0;
            for (int s = 0; s < secrets() && !all.isEmpty(); s++) {
                int bit = 1 << s;
                sure |= all.stream().allMatch(set -> ((set & bit) == 0) == lies) ? bit : 0;
            }
            return sure;
        }

        int next(int k, int what) {
            if (no(k, notes.size() + 1) || no(what, 2)) {
                return -1;
            }
            List<Integer> all = trueOnes(k);
            if (all.isEmpty() || wells() == 0 || secrets() == 0) {
                return -2;
            }
            int best = -1;
            int least = 1000;
            for (int s = 0; s < secrets(); s++) {
                int deeper = 0;
                for (int set : all) {
                    deeper += wouldBe(0, 1 << s, set) > wouldBe(0, 0, set) ? 1 : 0;
                }
                int greater = Math.max(deeper, all.size() - deeper);
                if (greater < least) {
                    best = s;
                    least = greater;
                }
            }
            return what == 0 ? best : least;
        }
    }
}
