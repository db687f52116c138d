import java.util.ArrayList;
import java.util.Arrays;
import java.util.List;

/**
 * Each argument of each call at its bounds, one below, one beyond and far off: what is refused is refused whatever else
 * is asked, and nothing has happened behind it.
 */
public final class SecretWellsRefused {
    /** A call with its arguments; a boolean answers 1 or 0. */
    private interface Asked {
        long on(SecretWells x, int[] a);
    }

    /** What a call is, what it answers when it is refused, and the least and most of each argument. */
    private record Row(String sentence, String name, Asked asked, long refused, int[] ranges) {
    }

    /** An object, and how many WELLS, MEN, SECRETS, TIES, TOLD ones it has. */
    private record Made(String name, Due.Made object, int wells, int men, int secrets, int ties, int told) {
    }

    public static void main(String[] args) {
        List<Made> all = new ArrayList<>();
        all.add(new Made("nothing told", SecretWells::new, 0, 0, 0, 0, 0));
        all.add(new Made("wells alone", () -> Due.of("well a 5 5; well b 5 5; well c 5 5; well d 5 5;"), 4, 0, 0, 0, 0));
        all.add(new Made("secrets alone", () -> Due.of("secret a 1; secret b 1; secret c 1;"), 0, 0, 3, 0, 0));
        all.add(new Made("the village", Due::rich, 2, 3, 4, 2, 2));
        all.add(new Made("all full", Due::full, 4, 7, 8, 12, 2));
        for (Made made : all) {
            for (Row row : rows(made)) {
                Due.sentence(row.sentence);
                refused(made, row);
                atTheBounds(made, row);
            }
            sets(made);
        }
        Due.end();
    }

    private static int[] to(int... ranges) {
        return ranges;
    }

    private static List<Row> rows(Made made) {
        int w = made.wells - 1;
        int m = made.men - 1;
        int s = made.secrets - 1;
        int t = made.ties - 1;
        List<Row> rows = new ArrayList<>();
        rows.add(new Row("5 what FILLS tells now. NONE for others.", "well", (x, a) -> x.well(a[0], a[1]), -1, to(0, w, 0, 5)));
        rows.add(new Row("4 what DRINKS tells now (0, if he is dead). NONE for others.", "man", (x, a) -> x.man(a[0], a[1]), -1, to(0, m, 0, 4)));
        rows.add(new Row("3 how much it makes deeper now (0: it HOLDS nowhere). NONE for others.", "secret", (x, a) -> x.secret(a[0], a[1]), -1, to(0, s, 0, 3)));
        rows.add(new Row("-2: one of them is dead; NONE: no such ones.", "tells", (x, a) -> x.tells(a[0], a[1]), -1, to(0, t, 0, s)));
        rows.add(new Row("which it is; NONE, and nothing happens: no such n.", "days", (x, a) -> x.days(a[0]), -1, to(0, 100)));
        rows.add(new Row("he is dead, does not know it, it is whispered into it; NONE: no such ones.", "whisper", (x, a) -> x.whisper(a[0], a[1], a[2]), -1, to(0, m, 0, s, 0, w)));
        rows.add(new Row("DRILLED: how DEEP the WELL is then; -2, NONE as whisper().", "drill", (x, a) -> x.drill(a[0], a[1], a[2]), -1, to(0, m, 0, s, 0, w)));
        rows.add(new Row("one is dead, he does not know it, the other one does, no such ones.", "tell", (x, a) -> Due.bit(x.tell(a[0], a[1], a[2])), 0, to(0, m, 0, m, 0, s)));
        rows.add(new Row("false, and nothing happens: he does, he is dead, no such ones.", "go", (x, a) -> Due.bit(x.go(a[0], a[1])), 0, to(0, m, 0, w)));
        rows.add(new Row("false, and nothing happens: it is so, no such one.", "cut", (x, a) -> Due.bit(x.cut(a[0], true)), 0, to(0, t)));
        rows.add(new Row("false, and nothing happens: it is so, no such one.", "cut, false", (x, a) -> Due.bit(x.cut(a[0], false)), 0, to(0, t)));
        rows.add(new Row("In n DAYS: of a WELL what 0 DEEP, 1 WATER; NONE: no such ones.", "wellIn", (x, a) -> x.wellIn(a[0], a[1], a[2]), -1, to(0, w, 0, 200, 0, 1)));
        rows.add(new Row("1 THIRST, 2 SECRETS he knows (bits); NONE: no such ones.", "manIn", (x, a) -> x.manIn(a[0], a[1], a[2]), -1, to(0, m, 0, 200, 0, 2)));
        rows.add(new Row("DRY BY; -2: not; NONE: no such WELL.", "dryBy", (x, a) -> x.dryBy(a[0]), -1, to(0, w)));
        rows.add(new Row("1 behind how many DAYS; -2: nobody; NONE for others.", "first", (x, a) -> x.first(a[0]), -1, to(0, 1)));
        rows.addAll(moreRows(w, m, s, made.told));
        return rows;
    }

    private static List<Row> moreRows(int w, int m, int s, int told) {
        List<Row> rows = new ArrayList<>();
        int days = s < 0 ? 0 : 60;
        rows.add(new Row("-2: there are no WELLS; NONE: no such ones.", "rain", (x, a) -> x.rain(1, a[0], a[1]), -1, to(1, days, 0, 2)));
        rows.add(new Row("NONE (looked at first): no such ones, not so many in the set.", "rainAt", (x, a) -> x.rainAt(1, a[0], a[1]), -1, to(1, days, 0, 0)));
        rows.add(new Row("-2: he knows it, is dead; NONE: no such ones.", "silence", (x, a) -> x.silence(a[0], a[1], a[2]), -1, to(0, s, 0, m, 0, 1)));
        rows.add(new Row("REACH (bits); NONE: no such one.", "reach", (x, a) -> x.reach(a[0]), -1, to(0, s)));
        String holds = "HOLDS; NONE: no such ones, one and the same.";
        rows.add(new Row(holds, "holds 0,", (x, a) -> x.holds(0, a[0]), -1, to(1, m)));
        rows.add(new Row(holds, "holds ,0", (x, a) -> x.holds(a[0], 0), -1, to(1, m)));
        rows.add(new Row(holds, "holds the last one,", (x, a) -> x.holds(m, a[0]), -1, to(0, m - 1)));
        rows.add(new Row(holds, "holds , the last one", (x, a) -> x.holds(a[0], m), -1, to(0, m - 1)));
        rows.add(new Row("else the i-th (bits of MEN, the least first); NONE: no such ones, not so many.", "quiet", (x, a) -> x.quiet(a[0], -1), -1, to(0, w)));
        rows.add(new Row("ODDS; NONE: no such ones.", "odds", (x, a) -> x.odds(a[0], a[1], a[2], a[3]), -1, to(0, m, 0, s, 0, 100, 1, 20)));
        rows.add(new Row("DEATHS; NONE: no such ones.", "deaths", (x, a) -> x.deaths(a[0], a[1]), -1, to(0, 100, 1, 20)));
        rows.add(new Row("WORTH; NONE: no such SECRET.", "worth", (x, a) -> x.worth(a[0]), -1, to(0, s)));
        rows.add(new Row("NONE, and nothing happens: 20 are there, no such ones (deep 0 .. 9999; a set of SECRETS, none too).", "note", (x, a) -> x.note(a[0], a[1], a[2]), -1, to(0, w, 0, (1 << s + 1) - 1, 0, 9999)));
        rows.add(new Row("how many (i NONE), else the i-th; NONE: no such ones, not so many.", "truth", (x, a) -> x.truth(a[0], -1), -1, to(0, told)));
        rows.add(new Row("0 if there are no TRUE ones; NONE: no such k.", "sure", (x, a) -> x.sure(a[0], false), -1, to(0, told)));
        rows.add(new Row("0 if there are no TRUE ones; NONE: no such k.", "sure, lies", (x, a) -> x.sure(a[0], true), -1, to(0, told)));
        rows.add(new Row("-2: no WELLS, no SECRETS, no TRUE ones; NONE: no such ones.", "next", (x, a) -> x.next(a[0], a[1]), -1, to(0, told, 0, 1)));
        rows.add(new Row("is held in a SLOT (0 .. 2): true; false: no such one.", "hold", (x, a) -> Due.bit(x.hold(a[0])), 0, to(0, 2)));
        rows.add(new Row("true; false, and nothing happens: no such one, nothing is held.", "restore", (x, a) -> Due.bit(x.restore(a[0])), 0, to(0, 2)));
        rows.add(new Row("13 SECRETS that are FALSE by the text (bits). NONE for others.", "count", (x, a) -> x.count(a[0]), -1, to(0, 13)));
        return rows;
    }

    /** One below, one beyond, and numbers that would be good ones if bits of them were left out. */
    private static int[] outside(int least, int most) {
        int high = Math.max(least, most);
        return new int[] {least - 1, most + 1, least - 2, high + 2, least - 32, high + 32, least - 256, high + 256, high + 65536,
            Due.MIN, Due.MIN + least, Due.MIN + high, Due.MAX, Due.MAX - 1};
    }

    private static String told(Made made, Row row, int[] a) {
        return made.name + ": " + row.name + Arrays.toString(a);
    }

    private static void refused(Made made, Row row) {
        SecretWells x = made.object.made();
        int size = row.ranges.length / 2;
        for (int i = 0; i < size; i++) {
            for (int wrong : outside(row.ranges[2 * i], row.ranges[2 * i + 1])) {
                int[] a = firstOnes(row);
                a[i] = wrong;
                Due.due(told(made, row, a), row.asked.on(x, a), row.refused);
                for (int k = 0; k < size; k++) {
                    a[k] = k == i ? wrong : row.ranges[2 * k + 1];
                }
                Due.due(told(made, row, a), row.asked.on(x, a), row.refused);
            }
        }
        int[] a = new int[size];
        for (int wrong : new int[] {Due.MIN, Due.MAX}) {
            Arrays.fill(a, wrong);
            Due.due(told(made, row, a), row.asked.on(x, a), row.refused);
        }
        Due.due("what there is behind refused calls of " + row.name + ", " + made.name, Due.probed(x), Due.probed(made.object.made()));
    }

    private static int[] firstOnes(Row row) {
        int[] a = new int[row.ranges.length / 2];
        for (int i = 0; i < a.length; i++) {
            a[i] = row.ranges[2 * i];
        }
        return a;
    }

    /** Nothing is refused at the bounds themselves, in all ways to choose them; if there is no such one, all is. */
    private static void atTheBounds(Made made, Row row) {
        int size = row.ranges.length / 2;
        boolean isAny = true;
        for (int i = 0; i < size; i++) {
            isAny &= row.ranges[2 * i] <= row.ranges[2 * i + 1];
        }
        if (row.refused != -1) {
            return;
        }
        for (int way = 0; way < 1 << size; way++) {
            int[] a = new int[size];
            for (int i = 0; i < size; i++) {
                a[i] = row.ranges[2 * i + (way >> i & 1)];
            }
            Due.due(told(made, row, a) + " is refused", row.asked.on(made.object.made(), a) == -1, !isAny);
        }
    }

    // ---- sets of SECRETS

    private static void sets(Made made) {
        Due.sentence("RAIN (a set of SECRETS as bits, 1 to 4 of them)");
        int none = made.wells == 0 ? -2 : 0;
        for (int set = -2; set < 258; set++) {
            boolean isGood = set > 0 && set < 1 << made.secrets && Integer.bitCount(set) <= 4;
            if (isGood && Integer.bitCount(set) == 4 && set % 9 != 0) {
                continue;
            }
            SecretWells x = made.object.made();
            Due.due(made.name + ": rain(" + set + ", 1, 0) is refused", x.rain(set, 1, 0) == -1, !isGood);
            Due.due(made.name + ": rain(" + set + ", 1, 0) is -2", x.rain(set, 1, 0) == -2, isGood && none == -2);
            for (int i = -2; i < 9; i++) {
                boolean isOne = isGood && i >= 0 && i < Integer.bitCount(set);
                long got = x.rainAt(set, 1, i);
                Due.due(made.name + ": rainAt(" + set + ", 1, " + i + ") is refused", got == -1, !isOne);
                Due.due(made.name + ": rainAt(" + set + ", 1, " + i + ") is -2", got == -2, isOne && none == -2);
            }
        }
        Due.sentence("(deep 0 .. 9999; a set of SECRETS, none too)");
        SecretWells x = made.object.made();
        x.forget();
        int number = 0;
        for (int set = -2; set < 258 && number < 20; set += set > 2 && set < 252 && made.secrets == 8 ? 17 : 1) {
            boolean isGood = made.wells > 0 && set >= 0 && set < 1 << made.secrets;
            Due.due(made.name + ": note(0, " + set + ", 5)", x.note(0, set, 5), isGood ? number : -1);
            number += isGood ? 1 : 0;
            Due.due("TOLD ones", x.count(10), number);
        }
    }
}
