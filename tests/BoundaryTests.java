import java.io.IOException;
import java.lang.reflect.Method;
import java.lang.reflect.Modifier;
import java.nio.file.Files;
import java.nio.file.Path;
import java.util.ArrayList;
import java.util.List;

/**
 * Each sentence of the document that names a boundary case has a case of its own here, promise by promise. A case is
 * named by the document's words, told behind " -- " what of them it tries. `BoundaryTests DOC.md` also looks whether
 * the document still has these words.
 */
public final class BoundaryTests {
    private static final int NONE = -1;
    private static final int PROMISES = 55;
    private static int wrong = 0;
    private static int tried = 0;
    private static int promise = 0;
    private static final List<List<String>> cases = new ArrayList<>();

    // ---- how a case is tried

    private static void begin(int number) { promise = number; }
    private static void note(String words) {
        if (!cases.get(promise).contains(words)) cases.get(promise).add(words);
    }
    private static void due(String words, String what, Object got, Object want) {
        note(words);
        tried++;
        if (!got.equals(want)) {
            wrong++;
            System.out.println("promise " + promise + ", " + words + ": " + what + " answered " + got + ", due is " + want);
        }
    }

    /** Bits of points told as letters. */
    private static int p(String letters) {
        int bits = 0;
        for (char c : letters.toCharArray()) bits |= 1 << c - 'a';
        return bits;
    }
    /** Bits of sets' numbers. */
    private static int s(int... numbers) {
        int bits = 0;
        for (int i : numbers) bits |= 1 << i;
        return bits;
    }
    private static Object argument(String told) {
        switch (told) {
            case "true": return true;
            case "false": return false;
            case "NONE": return NONE;
            case "LEAST": return Integer.MIN_VALUE;
            case "MOST": return Integer.MAX_VALUE;
            default: return told.charAt(0) >= 'a' ? (Object) p(told) : (Object) Integer.decode(told);
        }
    }
    /** A call told as in Java; an argument may be points as letters. A boolean counts 1 or 0. */
    private static int call(PetalSets x, String told) {
        int open = told.indexOf('(');
        String inside = told.substring(open + 1, told.length() - 1);
        String[] parts = inside.isEmpty() ? new String[0] : inside.split(", ");
        Object[] arguments = new Object[parts.length];
        for (int i = 0; i < parts.length; i++) arguments[i] = argument(parts[i]);
        try {
            for (Method m : PetalSets.class.getDeclaredMethods()) {
                if (Modifier.isPublic(m.getModifiers()) && m.getName().equals(told.substring(0, open))) {
                    Object answer = m.invoke(x, arguments);
                    return answer instanceof Boolean ? ((Boolean) answer ? 1 : 0) : (Integer) answer;
                }
            }
        } catch (ReflectiveOperationException e) {
            throw new IllegalStateException(told, e);
        }
        throw new IllegalStateException("no such call: " + told);
    }

    private static void feed(PetalSets x, String t) {
        StringBuilder whole = new StringBuilder(t);
        while (whole.length() % 20 != 0) whole.append('?');
        for (int i = 0; i < whole.length(); i += 20) {
            int[] w = new int[5];
            for (int j = 0; j < 20; j++) w[j / 4] = w[j / 4] << 8 | whole.charAt(i + j) & 255;
            x.feed(w[0], w[1], w[2], w[3], w[4]);
        }
        x.back(whole.length() - t.length());
    }
    private static int tell(PetalSets x, String t) {
        feed(x, t);
        return x.text();
    }
    private static String textOf(String family) {
        String[] words = family.split(" ");
        StringBuilder t = new StringBuilder("points " + words[0] + ";");
        for (int i = 1; i < words.length; i++) t.append("set ").append(words[i]).append(";");
        return t.toString();
    }
    /**
     * A family told as "6 ab ac". Its last set came by an act, so that the text was another one; then the largest set
     * that there is not came and went, so that there are acts to undo, and a set that there was; then a text of other
     * points and sets was refused for its FAULT; twelve bytes stand on the tape.
     */
    private static PetalSets make(String family) {
        PetalSets x = new PetalSets();
        int many = family.split(" ").length - 1;
        int lastBlank = family.lastIndexOf(' ');
        int told = tell(x, textOf(many == 0 ? family : family.substring(0, lastBlank)));
        if (many > 0) x.add(p(family.substring(lastBlank + 1)));
        if (told != Math.max(many - 1, 0) || x.count(1) != many) throw new IllegalStateException("no family: " + family);
        int another = (1 << x.count(0)) - 1;
        while (another > 0 && x.add(another) == NONE) another--;
        if (x.count(1) > many) x.drop(many);
        tell(x, x.count(0) == 3 ? "points 5;set e;set cd;?" : "points 3;set c;set ab;?");
        feed(x, "set b;set a;");
        return x;
    }

    private static String letters(int set) {
        StringBuilder t = new StringBuilder();
        for (int i = 0; i < 32; i++) if ((set >> i & 1) != 0) t.append((char) ('a' + i));
        return t.toString();
    }
    private static String family(PetalSets x) {
        StringBuilder t = new StringBuilder().append(x.count(0));
        int many = x.count(1);
        for (int i = 0; i < many; i++) t.append(' ').append(letters(x.set(i, 0)));
        return t.toString();
    }
    /** All that can be seen of an object, to its oldest act and with its tape read; it is used up by that. */
    private static String allOf(PetalSets x) {
        StringBuilder t = new StringBuilder();
        for (int i = 0; i < 7; i++) t.append(x.count(i)).append(' ');
        t.append("| ").append(family(x));
        for (int left = x.undo(); left > NONE; left = x.undo()) t.append(" | ").append(left).append(": ").append(family(x));
        t.append(" | ").append(x.text()).append(": ").append(family(x)).append(' ').append(x.count(4));
        return t.toString();
    }

    /** Calls that only ask, or are refused: they answer so, also when they are made again, and nothing happens. */
    private static void ask(String words, String family, int want, String... calls) {
        for (String c : calls) {
            PetalSets x = make(family);
            due(words, c + " of " + family, call(x, c), want);
            due(words, c + " again of " + family, call(x, c), want);
            due(words, "what there is behind " + c + " of " + family, allOf(x), allOf(make(family)));
        }
    }
    /** A call that acts: it answers so, the sets are then such, all else stays, and it can be undone. */
    private static void act(String words, String family, String call, int want, String after) {
        PetalSets x = make(family);
        int acts = x.count(3);
        due(words, call + " of " + family, call(x, call), want);
        due(words, "the family behind " + call + " of " + family, family(x), after);
        due(words, "acts behind " + call + " of " + family, x.count(3), acts + 1);
        due(words, "undo behind " + call + " of " + family, x.undo(), acts);
        due(words, "what there is behind undo of " + call + " of " + family, allOf(x), allOf(make(family)));
    }

    /** Something is asked for, something happens, and it is asked for again: nothing is left of the first answer. */
    private static void askBehind(String words, String family, String before, String between, String after, int want) {
        PetalSets x = make(family);
        call(x, before);
        call(x, between);
        due(words, after + " behind " + before + ", " + between + " of " + family, call(x, after), want);
    }

    private static final String NINE_TOLD = "9 ab hi";
    /** A text that is read: all is anew. */
    private static void reads(String words, String text, String after) {
        PetalSets x = make(NINE_TOLD);
        x.back(x.count(4));
        String shown = text.replace('\n', '/');
        due(words, "text() of " + shown, tell(x, text), after.split(" ").length - 1);
        due(words, "the family told by " + shown, family(x), after);
        due(words, "the tape behind " + shown, x.count(4), 0);
        due(words, "acts behind " + shown, x.count(3), 0);
        due(words, "undo behind " + shown, x.undo(), NONE);
    }
    /** A text with a fault: the tape is empty, and all else stays. */
    private static void faults(String words, String text, int fault) {
        PetalSets x = make(NINE_TOLD);
        PetalSets twin = make(NINE_TOLD);
        x.back(x.count(4));
        twin.back(twin.count(4));
        String shown = text.replace('\n', '/');
        due(words, "text() of " + shown, tell(x, text), -4 - fault);
        due(words, "what there is behind " + shown, allOf(x), allOf(twin));
    }

    private static final String STAR = "6 ab ac ad bc ef";
    private static final String CHAIN = "4 a ab abc abcd";
    private static final String TEN = "10 a b c d e f g h i j";
    private static final String FIFTEEN = "10 a b c d e f g h i j ab ac ad ae af";
    private static final String SIXTEEN = FIFTEEN + " ag";
    /** Behind its first step for one point it is lost. */
    private static final String LOST_LATE = "6 ab a c";
    private static final String LOST_AT_ONCE = "6 a b c d e f";

    // ---- told

    private static void aNewObject() {
        begin(1);
        PetalSets x = new PetalSets();
        due("6 POINTS", "count(0)", x.count(0), 6);
        due("6 POINTS -- the sixth", "add(f)", x.add(32), 0);
        due("6 POINTS -- a seventh", "add(g)", x.add(64), NONE);
        x = new PetalSets();
        due("no SETS", "count(1)", x.count(1), 0);
        due("no SETS", "set(0, 0)", x.set(0, 0), NONE);
        due("no SETS -- nor acts", "count(3)", x.count(3), 0);
        due("no SETS -- nor acts", "undo()", x.undo(), NONE);
        due("no SETS -- nor bytes", "count(4)", x.count(4), 0);
        new PetalSets().add(1);
        due("no SETS -- though another object has one", "count(1)", new PetalSets().count(1), 0);
    }

    private static String blanks(int many) { return " ".repeat(many); }
    private static PetalSets fed(int bytes) {
        PetalSets x = new PetalSets();
        feed(x, blanks(bytes));
        return x;
    }
    private static void feeding() {
        begin(2);
        for (int place = 0; place < 40; place++) {
            String t = blanks(place) + "?" + blanks(39 - place);
            PetalSets x = new PetalSets();
            feed(x, t);
            String words = place < 20 ? "the highest of a first" : "come behind the tape";
            due(words, "text() with a wrong byte at " + place, x.text(), -4 - place);
        }
        for (int high = 128; high < 256; high++) {
            PetalSets x = new PetalSets();
            x.feed(0x20202020, 0x20202000 | high, high << 24 | 0x202020, 0x20202020, 0x20202020);
            due("Twenty bytes -- the higher half of them", "text() with " + high, x.text(), -4 - 7);
        }
        PetalSets x = new PetalSets();
        for (int i = 1; i <= 20; i++) due("how many it has", "feed", x.feed(0, 0, 0, 0, 0), 20 * i);
        due("if it would have more than 400 -- it is full", "feed", x.feed(0, 0, 0, 0, 0), NONE);
        due("if it would have more than 400 -- it is full", "count(4)", x.count(4), 400);
        x = fed(380);
        due("if it would have more than 400 -- just 400", "feed", x.feed(0, 0, 0, 0, 0), 400);
        for (int has = 381; has <= 400; has++) {
            x = fed(has);
            due("if it would have more than 400 -- one more at least", "feed behind " + has, x.feed(-1, -1, -1, -1, -1), NONE);
            due("NONE, and nothing comes", "count(4) of " + has, x.count(4), has);
            due("NONE, and nothing comes", "text() of blanks", x.text(), 0);
        }
        x = fed(381);
        x.feed(-1, -1, -1, -1, -1);
        x.back(1);
        due("if it would have more than 400 -- behind back", "feed", x.feed(0, 0, 0, 0, 0), 400);
        x.text();
        due("how many it has -- behind text", "feed", x.feed(0, 0, 0, 0, 0), 20);
    }

    private static void goingBack() {
        begin(3);
        PetalSets x = new PetalSets();
        feed(x, "set a;set b;set c");
        due("The last n bytes of the tape go", "back(5)", x.back(5), 12);
        due("The last n bytes of the tape go", "text()", x.text(), 2);
        due("The last n bytes of the tape go", "the sets", family(x), "6 a b");
        x = fed(400);
        due("how many it has -- none go", "back(0)", x.back(0), 400);
        due("how many it has -- one goes", "back(1)", x.back(1), 399);
        due("how many it has -- all go", "back(399)", x.back(399), 0);
        due("how many it has -- none go of none", "back(0)", x.back(0), 0);
        due("if it has not so many -- of an empty one", "back(1)", x.back(1), NONE);
        for (int n : new int[] {13, 20, 400, Integer.MAX_VALUE}) {
            ask("if it has not so many", "6 ab", NONE, "back(" + n + ")");
        }
        for (int n : new int[] {-1, -2, -12, -13, Integer.MIN_VALUE}) {
            ask("or n is below 0", "6 ab", NONE, "back(" + n + ")");
        }
        x = fed(20);
        due("if it has not so many -- one more", "back(21)", x.back(21), NONE);
        due("NONE, and nothing goes", "count(4)", x.count(4), 20);
        due("how many it has -- just so many", "back(20)", x.back(20), 0);
    }

    private static void textsThatAreRead() {
        begin(4);
        String n = "n (6 without)";
        reads(n + " -- though it was 9", "set f;", "6 f");
        reads("[points N ;] { set LETTERS ; } -- nothing", "", "6");
        reads("[points N ;] { set LETTERS ; } -- blanks alone", " \n ", "6");
        reads("[points N ;] { set LETTERS ; } -- no SET", "points 4;", "4");
        reads("[points N ;] { set LETTERS ; } -- no points", "set a;", "6 a");
        for (int i = 1; i <= 10; i++) {
            String last = "" + (char) ('a' + i - 1);
            reads("n 1 .. 10", "points " + i + ";set " + last + ";", i + " " + last);
            if (i < 10) reads("one or two, 0s ahead, too", "points 0" + i + ";set " + last + ";", i + " " + last);
        }
        reads("each once, in any order", "set cab;set fa;", "6 abc af");
        reads("each once, in any order -- all of ten", "points 10;set jihgfedcba;", "10 abcdefghij");
        String where = "Blanks (32), line ends (10) where one likes";
        reads(where + " -- wherever one can be", " points  2 ; set  a ; set b ; ", "2 a b");
        reads(where + " -- wherever one can be", "\npoints\n\n2\n;\nset\n\na\n;\nset\nb\n;\n", "2 a b");
        reads(where + " -- nowhere but where it must be", "points 2;set a;set b;", "2 a b");
        reads("at most 16", textOf(SIXTEEN), SIXTEEN);
        reads("at most 16 -- a blank behind the last", textOf(SIXTEEN) + " \n", SIXTEEN);
        String full = textOf(TEN);
        reads("The tape (empty then, behind a FAULT, too) is the TEXT -- just 400 bytes", full + blanks(400 - full.length()), TEN);
        reads("The tape (empty then, behind a FAULT, too) is the TEXT -- just 400 bytes, the last a ;", blanks(400 - full.length()) + full, TEN);
    }

    private static void textsWithAFault() {
        begin(4);
        String letters = "WORDS, LETTERS are small letters as far as they go on";
        faults(letters + " -- a word that goes on", "sets a;", 0);
        faults(letters + " -- a word that goes on", "set a;pointsx 3;", 6);
        faults(letters + " -- a word that breaks off", "set a;se t b;", 6);
        faults(letters + " -- a word that breaks off", "point 3;", 0);
        faults(letters + " -- a word that breaks off at the end", "set a; se", 7);
        faults(letters + " -- great letters", "Set a;", 0);
        faults(letters + " -- great letters", "POINTS 3;", 0);
        faults(letters + " -- great letters", "seT a;", 0);
        faults(letters + " -- a great letter ends them", "set aB;", 5);
        faults(letters + " -- z is one of them", "setz a;", 0);
        faults(letters + " -- z is one of them", "set az;", 4);
        faults(letters + " -- the bytes beside a and z", "set a`;", 5);
        faults(letters + " -- the bytes beside a and z", "set a{;", 5);
        faults("N digits as far as they go on -- no digit", "points x;", 7);
        faults("N digits as far as they go on -- a sign", "points +3;", 7);
        faults("N digits as far as they go on -- a sign", "points -3;", 7);
        faults("N digits as far as they go on -- the bytes beside 0 and 9", "points 3/;", 8);
        faults("N digits as far as they go on -- the bytes beside 0 and 9", "points 3:;", 8);
        faults("N digits as far as they go on -- they break off", "points 1 0;", 9);
        String between = "one at least between two WORDS, LETTERS, or these and N";
        faults(between + " -- set and LETTERS", "setab;", 0);
        faults(between + " -- points and N", "points3;", 6);
        faults(between + " -- set and a digit", "set3;", 3);
        faults(between + " -- LETTERS and a digit", "set ab3;", 6);
        faults(between + " -- N and set", "points 3set a;", 8);
        faults(between + " -- points and set", "pointsset a;", 0);
        String blank = "Blanks (32), line ends (10) where one likes";
        for (int other : new int[] {0, 9, 11, 12, 13, 31, 33, 127, 128, 160, 255}) {
            char c = (char) other;
            faults(blank + " -- other bytes, first", c + "set a;", 0);
            faults(blank + " -- other bytes, in the middle", "set" + c + "a;", 3);
            faults(blank + " -- other bytes, ahead of the ;", "set a" + c + ";", 5);
            faults(blank + " -- other bytes, ahead of N", "points" + c + "3;", 6);
            faults(blank + " -- other bytes, at the end", "set a;" + c, 6);
        }
        String stand = "the first byte that can't stand there";
        faults(stand + " -- a ; first", ";", 0);
        faults(stand + " -- a ; twice", "set a;;", 6);
        faults(stand + " -- a ; behind set", "set;", 3);
        faults(stand + " -- a ; behind set and a blank", "set ;", 4);
        faults(stand + " -- a ; behind points", "points;", 6);
        faults(stand + " -- a ; behind points and a blank", "points ;", 7);
        faults(stand + " -- N where a WORD is due", "3;", 0);
        faults(stand + " -- N where LETTERS are due", "set 3;", 4);
        faults(stand + " -- a WORD where a ; is due", "set a set b;", 6);
        faults(stand + " -- a WORD where a ; is due", "points 3 set a;", 9);
        faults(stand + " -- LETTERS twice", "set a b;", 6);
        faults(stand + " -- the first of two faults", "set a;x;set aa;", 6);
        String first = "of WORDS, LETTERS, N their first one";
        for (int points = 1; points <= 10; points++) {
            String t = "points " + points + ";set ";
            char beyond = (char) ('a' + points);
            faults("also a POINT that there is not -- the next one", t + beyond + ";", t.length());
            faults(first + " -- a POINT that there is not, last", t + "a" + beyond + ";", t.length());
        }
        faults("also a POINT that there is not -- without points the seventh", "set g;", 4);
        faults("also a POINT that there is not -- z", "points 10;set z;", 14);
        faults("also a POINT that there is not -- points are LETTERS here", "set points;", 4);
        faults("one twice in LETTERS -- side by side", "set aa;", 4);
        faults("one twice in LETTERS -- the first and the last", "set abcdefa;", 4);
        faults("one twice in LETTERS -- the text ends there", "set bb", 4);
        faults("a SET told already -- the one ahead", "set a;set a;", 10);
        faults("a SET told already -- in another order", "set abc;set f;set cab;", 18);
        faults("a SET told already -- the text ends there", "set a;set a", 10);
        for (String out : new String[] {"0", "00", "11", "12", "20", "99"}) {
            faults("N out of bounds", "points " + out + ";", 7);
        }
        faults("N out of bounds -- the text ends there", "points 11", 7);
        for (String long3 : new String[] {"000", "001", "006", "010", "100", "256", "262", "4294967302", "18446744073709551622"}) {
            faults("of three digits or more", "points " + long3 + ";", 7);
        }
        faults("of three digits or more -- a hundred of them", "points " + "0".repeat(99) + "6;", 7);
        String sixteen = textOf(SIXTEEN);
        faults("a 17th SET at its WORD", sixteen + "set bc;", sixteen.length());
        faults("a 17th SET at its WORD -- behind blanks", sixteen + " \nset bc;", sixteen.length() + 2);
        faults("a 17th SET at its WORD -- though it is told already", sixteen + "set a;", sixteen.length());
        faults("a 17th SET at its WORD -- though it ends too early", sixteen + "set", sixteen.length());
        faults("points in another place -- behind a SET", "set a;points 3;", 6);
        faults("points in another place -- twice", "points 3;points 3;", 9);
        faults("points in another place -- behind 16 SETS", sixteen + "points 3;", sixteen.length());
        String early = "the TEXT's length, if it ends too early";
        for (String t : new String[] {"points", "points ", "points 3", "points 3 ", "points 3\n\n", "set", "set ", "set\n",
                                      "set a", "set a ", "set abc", "set a;set", "set a;set ", "set a;set b", "set a;set b\n"}) {
            faults(early, t, t.length());
        }
        faults(early + " -- of 400 bytes", "set a" + blanks(395), 400);
        faults("-4 less its FAULT -- the first byte", "?", 0);
        faults("-4 less its FAULT -- the last of 400 bytes", blanks(399) + "?", 399);
    }

    private static void textAndAllElse() {
        begin(4);
        PetalSets x = make("9 ab hi");
        due("empty then, behind a FAULT, too", "text()", tell(x, "?"), -4 - 12);
        due("empty then, behind a FAULT, too", "count(4)", x.count(4), 0);
        due("empty then, behind a FAULT, too", "text() again", x.text(), 0);
        due("all anew -- an empty text", "the family", family(x), "6");
        faults("and all else stays -- points and sets told ahead of the FAULT", "points 3;set a;set c;?", 21);
        x = make("9 ab hi");
        x.text();
        due("all anew", "the family", family(x), "6 b a");
        due("text() forgets them", "count(3)", x.count(3), 0);
        due("text() forgets them", "undo()", x.undo(), NONE);
        x.add(4);
        due("text() forgets them -- later ones can be undone", "undo()", x.undo(), 0);
        due("text() forgets them -- later ones can be undone", "undo() of more", x.undo(), NONE);
    }

    // ---- acts

    private static void adding() {
        begin(5);
        act("A SET comes: its number -- the first one", "6", "add(f)", 0, "6 f");
        act("A SET comes: its number -- the last one, 15", FIFTEEN, "add(abcdefghij)", 15, FIFTEEN + " abcdefghij");
        act("A SET comes: its number -- all POINTS of one", "1", "add(a)", 0, "1 a");
        act("A SET comes: its number -- all POINTS of ten", "10 a", "add(1023)", 1, "10 a abcdefghij");
        act("A SET comes: its number -- the last POINT", "10 a", "add(j)", 1, "10 a j");
        ask("it is empty", "6 ab", NONE, "add(0)");
        ask("it is empty -- of no SETS", "6", NONE, "add(0)");
        for (int n = 1; n <= 10; n++) {
            ask("of other POINTS -- the next one", n + " a", NONE, "add(" + (1 << n) + ")", "add(" + (2 << n) + ")");
            ask("of other POINTS -- beside others", n + " a", NONE, "add(" + ((2 << n) - 1) + ")");
        }
        ask("of other POINTS -- far ones", "6 ab", NONE, "add(0x10000)", "add(0x40000000)", "add(0x40000001)", "add(MOST)");
        ask("of other POINTS -- below 0", "6 ab", NONE, "add(-1)", "add(-64)", "add(LEAST)", "add(-2147483647)");
        ask("told already -- the first, one in the middle, the last", STAR, NONE, "add(ab)", "add(ad)", "add(ef)");
        ask("told already -- the only one", "1 a", NONE, "add(a)");
        ask("there are 16", SIXTEEN, NONE, "add(bc)", "add(abcdefghij)");
        ask("there are 16 -- and told already", SIXTEEN, NONE, "add(a)", "add(ag)");
        PetalSets x = make(SIXTEEN);
        x.drop(3);
        due("there are 16 -- one went", "add(bc)", x.add(6), 15);
        due("there are 16 -- one went, one came", "add(bd)", x.add(10), NONE);
    }

    private static void dropping() {
        begin(6);
        act("numbers above it are one less -- of the first", STAR, "drop(0)", 1, "6 ac ad bc ef");
        act("numbers above it are one less -- of one in the middle", STAR, "drop(2)", 1, "6 ab ac bc ef");
        act("numbers above it are one less -- of the last", STAR, "drop(4)", 1, "6 ab ac ad bc");
        act("A SET goes -- the only one", "6 ab", "drop(0)", 1, "6");
        act("A SET goes -- the 16th", SIXTEEN, "drop(15)", 1, FIFTEEN);
        ask("false: there is none such -- behind the last", STAR, 0, "drop(5)", "drop(6)", "drop(15)", "drop(16)", "drop(32)", "drop(MOST)");
        ask("false: there is none such -- behind the 16th", SIXTEEN, 0, "drop(16)", "drop(17)");
        ask("false: there is none such -- below 0", STAR, 0, "drop(-1)", "drop(-32)", "drop(LEAST)");
        ask("false: there is none such -- no SETS", "6", 0, "drop(0)", "drop(-1)");
    }

    private static void changing() {
        begin(7);
        act("A SET becomes another one: which it was -- the first", STAR, "change(0, f)", p("ab"), "6 f ac ad bc ef");
        act("A SET becomes another one: which it was -- the last", STAR, "change(4, abcdef)", p("ef"), "6 ab ac ad bc abcdef");
        act("A SET becomes another one: which it was -- though there are 16", SIXTEEN, "change(15, bc)", p("ag"), FIFTEEN + " bc");
        ask("no such one -- behind the last", STAR, NONE, "change(5, f)", "change(16, f)", "change(32, f)", "change(MOST, f)");
        ask("no such one -- below 0", STAR, NONE, "change(-1, f)", "change(-32, f)", "change(LEAST, f)");
        ask("no such one -- no SETS", "6", NONE, "change(0, f)");
        ask("no such one -- behind the 16th", SIXTEEN, NONE, "change(16, bc)");
        ask("it is empty", STAR, NONE, "change(0, 0)", "change(4, 0)");
        ask("of other POINTS", STAR, NONE, "change(0, g)", "change(0, 65)", "change(0, -1)", "change(0, MOST)", "change(0, LEAST)");
        ask("of other POINTS -- of ten", TEN, NONE, "change(0, 1024)");
        ask("told already -- one behind it, one ahead of it", STAR, NONE, "change(0, ac)", "change(0, ef)", "change(4, ab)", "change(2, ac)");
        ask("also: it is so", STAR, NONE, "change(0, ab)", "change(4, ef)");
        ask("also: it is so -- the only one", "1 a", NONE, "change(0, a)");
    }

    private static void swapping() {
        begin(8);
        act("how many SETS changed -- not those with both or none", STAR, "swap(0, 1)", 3, "6 ab bc bd ac ef");
        act("Two POINTS change places in all SETS -- the first and the last", TEN, "swap(0, 9)", 2, "10 j b c d e f g h i a");
        act("Two POINTS change places in all SETS -- the last and the first", "6 ab f", "swap(5, 0)", 2, "6 bf a");
        act("Two POINTS change places in all SETS -- one of them is in none", "3 a ab", "swap(0, 2)", 2, "3 c bc");
        ask("no such POINTS (0 .. n less 1) -- n", STAR, NONE, "swap(0, 6)", "swap(6, 0)", "swap(6, 7)", "swap(5, 6)");
        ask("no such POINTS (0 .. n less 1) -- n of ten", TEN, NONE, "swap(0, 10)", "swap(10, 0)");
        ask("no such POINTS (0 .. n less 1) -- n of one", "1 a", NONE, "swap(0, 1)", "swap(1, 0)");
        ask("no such POINTS (0 .. n less 1) -- below 0", STAR, NONE, "swap(-1, 0)", "swap(0, -1)", "swap(0, LEAST)", "swap(LEAST, 0)");
        ask("no such POINTS (0 .. n less 1) -- as bits they would be some", STAR, NONE, "swap(32, 1)", "swap(1, 32)", "swap(-32, 1)", "swap(MOST, 1)");
        ask("both are one", STAR, NONE, "swap(0, 0)", "swap(5, 5)");
        ask("none would -- both in all", "6 abc ab abf", NONE, "swap(0, 1)");
        ask("none would -- both in none", "6 ab", NONE, "swap(4, 5)");
        ask("none would -- both or none", STAR, NONE, "swap(4, 5)", "swap(5, 4)");
        ask("none would -- no SETS", "6", NONE, "swap(0, 1)");
    }

    private static void leavingOut() {
        begin(9);
        act("those that are empty then", "6 ab a c", "without(0)", 2, "6 b c");
        act("those that are empty then -- the last one", "6 a", "without(0)", 0, "6");
        act("or as one ahead of them -- as it was", "6 b ab c", "without(0)", 2, "6 b c");
        act("or as one ahead of them -- as it becomes", "6 ab c b", "without(0)", 2, "6 b c");
        act("or as one ahead of them -- twice, and an empty one", "6 abf f b af ab abc bc bcf", "without(0)", 5, "6 bf f b bc bcf");
        act("A POINT goes out of all SETS -- the last of ten", "10 aj b j", "without(9)", 2, "10 a b");
        act("A POINT goes out of all SETS -- the only one", "1 a", "without(0)", 0, "1");
        ask("no such POINT -- n", STAR, NONE, "without(6)", "without(7)", "without(MOST)");
        ask("no such POINT -- n of ten", TEN, NONE, "without(10)");
        ask("no such POINT -- below 0", STAR, NONE, "without(-1)", "without(LEAST)");
        ask("no such POINT -- as a bit it would be one", STAR, NONE, "without(32)", "without(-32)");
        ask("it is in none", "6 ab de", NONE, "without(2)", "without(5)");
        ask("it is in none -- no SETS", "6", NONE, "without(0)");
    }

    private static void keepingOnly() {
        begin(10);
        act("Only SETS with a POINT stay (with true)", STAR, "only(0, true)", 2, "6 ab ac ad");
        act("Only SETS with a POINT stay (with true) -- none does", "6 ab ac", "only(5, true)", 2, "6");
        act("Only SETS with a POINT stay (with true) -- the last of ten", TEN, "only(9, true)", 9, "10 j");
        act("or only those without it (with false)", STAR, "only(0, false)", 3, "6 bc ef");
        act("or only those without it (with false) -- none is", "6 ab ac", "only(0, false)", 2, "6");
        act("or only those without it (with false) -- the last of ten", TEN, "only(9, false)", 1, "10 a b c d e f g h i");
        for (String with : new String[] {"true", "false"}) {
            ask("no such POINT -- n", STAR, NONE, "only(6, " + with + ")", "only(MOST, " + with + ")");
            ask("no such POINT -- n of ten", TEN, NONE, "only(10, " + with + ")");
            ask("no such POINT -- below 0", STAR, NONE, "only(-1, " + with + ")", "only(LEAST, " + with + ")");
            ask("no such POINT -- as a bit it would be one", STAR, NONE, "only(32, " + with + ")", "only(-32, " + with + ")");
            ask("none would -- no SETS", "6", NONE, "only(0, " + with + ")");
        }
        ask("none would -- all have it", "6 ab ac", NONE, "only(0, true)");
        ask("none would -- none has it", "6 ab ac", NONE, "only(5, false)");
    }

    private static void joining() {
        begin(11);
        act("it becomes the first", "6 b bc d", "join(0, 1)", 3, "6 a ac d");
        act("it becomes the first -- a SET with both", "6 ab bc d", "join(0, 1)", 3, "6 a ac d");
        act("it becomes the first -- the last becomes the first of ten", "10 j bj", "join(0, 9)", 2, "10 a ab");
        act("it becomes the first -- the first becomes the last of ten", "10 a ab", "join(9, 0)", 2, "10 j bj");
        act("those as one ahead of them go -- as it was", "6 a b c", "join(0, 1)", 2, "6 a c");
        act("those as one ahead of them go -- as it becomes", "6 b a c", "join(0, 1)", 2, "6 a c");
        act("those as one ahead of them go -- twice", "6 b ab a bc c ac", "join(0, 1)", 3, "6 a ac c");
        ask("no such POINTS -- n", STAR, NONE, "join(0, 6)", "join(6, 0)", "join(6, 7)");
        ask("no such POINTS -- n of ten", TEN, NONE, "join(0, 10)", "join(10, 0)");
        ask("no such POINTS -- below 0", STAR, NONE, "join(-1, 0)", "join(0, -1)", "join(LEAST, 0)", "join(0, LEAST)");
        ask("no such POINTS -- as bits they would be some", STAR, NONE, "join(32, 1)", "join(1, 32)", "join(-32, 1)", "join(1, -32)");
        ask("both are one", STAR, NONE, "join(0, 0)", "join(5, 5)");
        ask("no SET has the second -- though some have the first", "6 ab ac", NONE, "join(0, 3)");
        ask("no SET has the second -- nor the first", "6 ab ac", NONE, "join(4, 5)");
        ask("no SET has the second -- no SETS", "6", NONE, "join(0, 1)");
    }

    private static void turning() {
        begin(12);
        act("the last one the first", "6 f", "turn()", 1, "6 a");
        act("the last one the first -- of ten", "10 j ij aj", "turn()", 3, "10 a aj ab");
        act("the last one the first -- of two", "2 a b", "turn()", 2, "2 b a");
        act("each POINT becomes the next one", "6 abe c", "turn()", 2, "6 bcf d");
        act("how many SETS changed -- not that of all POINTS", "6 abcdef a", "turn()", 1, "6 abcdef b");
        ask("none would -- one POINT", "1 a", NONE, "turn()");
        ask("none would -- all POINTS", "6 abcdef", NONE, "turn()");
        ask("none would -- all POINTS of ten", "10 abcdefghij", NONE, "turn()");
        ask("none would -- no SETS", "6", NONE, "turn()");
    }

    private static void flipping() {
        begin(13);
        act("Each SET becomes all POINTS that are not in it", "6 ab abcde", "flip()", 2, "6 cdef f");
        act("that would be empty: it goes -- the first", "3 abc a ab", "flip()", 2, "3 bc c");
        act("that would be empty: it goes -- the last", "3 a abc", "flip()", 1, "3 bc");
        act("that would be empty: it goes -- the only one", "6 abcdef", "flip()", 0, "6");
        act("that would be empty: it goes -- one POINT", "1 a", "flip()", 0, "1");
        act("that would be empty: it goes -- of ten", "10 abcdefghij a", "flip()", 1, "10 bcdefghij");
        act("Each SET becomes all POINTS that are not in it -- they change places", "2 a b", "flip()", 2, "2 b a");
        ask("there are none", "6", NONE, "flip()");
    }

    private static void reducing() {
        begin(14);
        act("SETS become the KERNEL for b -- 1", "6 ab ac", "reduce(1)", 1, "6 a");
        act("SETS become the KERNEL for b: how many there are -- 2", FOUR, "reduce(2)", 2, "6 bc a");
        act("SETS become the KERNEL for b: how many there are -- 15 of 16", FIFTEEN_PAIRS + " abc", "reduce(5)", 15, FIFTEEN_PAIRS);
        act("SETS become the KERNEL for b -- 5", "7 ab ac ad ae af ag", "reduce(5)", 1, "7 a");
        act("SETS become the KERNEL for b -- WITHIN alone", CHAIN, "reduce(5)", 1, "4 a");
        act("SETS become the KERNEL for b -- of ten points", "10 aj bj", "reduce(1)", 1, "10 j");
        ask("-2, and nothing happens: it is LOST -- at once", LOST_AT_ONCE, -2, "reduce(1)", "reduce(2)", "reduce(5)");
        ask("-2, and nothing happens: it is LOST -- behind a step", LOST_LATE, -2, "reduce(1)");
        ask("b out of bounds", STAR, NONE, "reduce(0)", "reduce(6)", "reduce(-1)", "reduce(7)", "reduce(MOST)", "reduce(LEAST)");
        ask("b out of bounds -- where it would be LOST", TEN, NONE, "reduce(0)", "reduce(6)");
        ask("b out of bounds -- where a step could be done", CHAIN, NONE, "reduce(0)", "reduce(6)");
        ask("it is as SETS are", STAR, NONE, "reduce(3)", "reduce(5)");
        ask("it is as SETS are -- one SET", "6 ab", NONE, "reduce(1)", "reduce(5)");
        ask("it is as SETS are -- no SETS", "6", NONE, "reduce(1)", "reduce(5)");
        PetalSets x = make(CHAIN);
        x.reduce(1);
        int acts = x.count(3);
        due("it is as SETS are -- it became so", "reduce(1) again", x.reduce(1), NONE);
        due("it is as SETS are -- it became so", "acts", x.count(3), acts);
        x = make("4 a ab");
        x.kernel(1, 0);
        x.back(12);
        tell(x, "points 7;set a;set ab;");
        x.reduce(1);
        due("SETS become the KERNEL for b -- POINTS stay", "the family", family(x), "7 a");
    }

    private static void thinning() {
        begin(15);
        act("SETS become the most that are FREE of k", STAR, "thin(3)", 1, "6 ab ac bc ef");
        act("SETS become the most that are FREE of k (2 .. 16) -- 2", STAR, "thin(2)", 4, "6 ab");
        act("SETS become the most that are FREE of k -- of ten", TEN, "thin(10)", 1, "10 a b c d e f g h i");
        ask("out of bounds", STAR, NONE, "thin(1)", "thin(17)", "thin(0)", "thin(-1)", "thin(MOST)", "thin(LEAST)");
        ask("out of bounds -- where some would", TEN, NONE, "thin(1)", "thin(0)", "thin(17)");
        ask("none would -- they are FREE of k", STAR, NONE, "thin(4)", "thin(5)", "thin(16)");
        ask("none would -- one SET", "6 ab", NONE, "thin(2)", "thin(16)");
        ask("none would -- no SETS", "6", NONE, "thin(2)", "thin(16)");
        ask("none would -- 16 SETS", SIXTEEN, NONE, "thin(16)");
    }

    private static void undoing() {
        begin(16);
        PetalSets x = new PetalSets();
        due("NONE: none can -- a new object", "undo()", x.undo(), NONE);
        for (int i = 1; i <= 12; i++) {
            x.add(i);
            due("of which the latest 12 can be undone", "count(3)", x.count(3), i);
        }
        x.add(13);
        due("of which the latest 12 can be undone -- a 13th", "count(3)", x.count(3), 12);
        for (int more = 11; more >= 0; more--) {
            due("how many more can be", "undo()", x.undo(), more);
            due("The latest ACT is taken back", "count(1)", x.count(1), more + 1);
        }
        due("NONE: none can -- all are", "undo()", x.undo(), NONE);
        due("NONE: none can -- all are", "the family", family(x), "6 a");
        for (int i = 0; i < 40; i++) x.swap(0, i % 2 + 1);
        due("of which the latest 12 can be undone -- of forty", "count(3)", x.count(3), 12);
        String[] were = new String[12];
        x = new PetalSets();
        x.add(1);
        for (int i = 0; i < 27; i++) {
            if (i >= 15) were[i - 15] = family(x);
            x.change(0, i + 2);
        }
        for (int i = 11; i >= 0; i--) {
            x.undo();
            due("of which the latest 12 can be undone -- of 27, one by one", "the family", family(x), were[i]);
        }
        x = new PetalSets();
        x.add(1);
        x.add(2);
        x.undo();
        x.add(63);
        x.undo();
        due("The latest ACT is taken back -- one behind an undo", "the family", family(x), "6 a");
        due("how many more can be -- behind an undo", "undo()", x.undo(), 0);
        due("The latest ACT is taken back", "the family", family(x), "6");
        due("NONE: none can", "undo()", x.undo(), NONE);
        due("NONE: none can", "the family stays", family(x), "6");
    }

    // ---- asked

    private static void askingOfSets() {
        begin(17);
        ask("0 it (bits)", STAR, p("ef"), "set(4, 0)");
        ask("0 it (bits) -- all of ten", "10 abcdefghij", 1023, "set(0, 0)");
        ask("1 SIZE -- the least and the greatest", "10 j abcdefghij", 1, "set(0, 1)");
        ask("1 SIZE -- the least and the greatest", "10 j abcdefghij", 10, "set(1, 1)");
        ask("2 SETS that have it within them (others; bits)", CHAIN, s(1, 2, 3), "set(0, 2)");
        ask("2 SETS that have it within them (others; bits) -- none, not even it", CHAIN, 0, "set(3, 2)");
        ask("2 SETS that have it within them (others; bits) -- ahead of it", "6 abc ab a", s(0, 1), "set(2, 2)");
        ask("2 SETS that have it within them (others; bits) -- the 16th", "10 a b c d e f g h i j ab ac ad ae af ag", s(10, 11, 12, 13, 14, 15), "set(0, 2)");
        ask("3 SETS it meets (others; bits)", CHAIN, s(0, 1, 2), "set(3, 3)");
        ask("3 SETS it meets (others; bits) -- none, not even it", STAR, 0, "set(4, 3)");
        ask("NONE for others -- another what", STAR, NONE, "set(0, 4)", "set(0, -1)", "set(0, MOST)", "set(0, LEAST)");
        ask("NONE for others -- no such SET", STAR, NONE, "set(5, 0)", "set(-1, 0)", "set(16, 0)", "set(32, 0)", "set(MOST, 1)", "set(LEAST, 2)", "set(5, 3)", "set(-1, 3)");
        ask("NONE for others -- the 17th", SIXTEEN, NONE, "set(16, 0)");
        ask("NONE for others -- no SETS", "6", NONE, "set(0, 0)", "set(0, 1)", "set(0, 2)", "set(0, 3)");
    }

    private static void degrees() {
        begin(18);
        ask("In how many SETS a POINT is", STAR, 3, "degree(0)");
        ask("In how many SETS a POINT is -- the last", STAR, 1, "degree(5)");
        ask("In how many SETS a POINT is -- none", "10 a", 0, "degree(9)");
        ask("In how many SETS a POINT is -- no SETS", "6", 0, "degree(0)", "degree(5)");
        ask("In how many SETS a POINT is -- all 16", "5 e ae be ce de abe ace ade bce bde cde abce abde acde bcde abcde", 16, "degree(4)");
        ask("NONE: no such POINT", STAR, NONE, "degree(6)", "degree(-1)", "degree(32)", "degree(-32)", "degree(MOST)", "degree(LEAST)");
        ask("NONE: no such POINT -- of ten", TEN, NONE, "degree(10)");
        ask("NONE: no such POINT -- of one", "1 a", NONE, "degree(1)");
    }

    private static void havings() {
        begin(19);
        ask("none: all SETS", STAR, 31, "having(0)");
        ask("none: all SETS -- of none", "6", 0, "having(0)");
        ask("none: all SETS -- of 16", SIXTEEN, 65535, "having(0)");
        ask("SETS that have all of some POINTS -- not some of them", STAR, s(3), "having(bc)");
        ask("SETS that have all of some POINTS -- all POINTS", STAR, 0, "having(abcdef)");
        ask("SETS that have all of some POINTS -- all POINTS", "10 a abcdefghij", s(1), "having(1023)");
        ask("NONE: other POINTS", STAR, NONE, "having(g)", "having(65)", "having(MOST)", "having(0x40000000)");
        ask("NONE: other POINTS -- of ten", TEN, NONE, "having(1024)");
        ask("NONE: other POINTS -- of one", "1 a", NONE, "having(b)", "having(ab)");
        ask("below 0", STAR, NONE, "having(-1)", "having(LEAST)", "having(-64)");
        ask("below 0 -- no SETS", "6", NONE, "having(-1)");
    }

    // ---- sunflowers

    private static void bitsOfSets(String name) {
        ask("NONE: below 0", STAR, NONE, name + "(-1)", name + "(-32)", name + "(LEAST)");
        ask("NONE: below 0 -- no SETS", "6", NONE, name + "(-1)");
        ask("none such -- the next one", STAR, NONE, name + "(32)", name + "(35)", name + "(63)");
        ask("none such -- far ones", STAR, NONE, name + "(0x10000)", name + "(0x40000000)", name + "(MOST)");
        ask("none such -- the 17th", SIXTEEN, NONE, name + "(0x10000)", name + "(0x1ffff)");
        ask("none such -- no SETS", "6", NONE, name + "(1)");
    }
    private static void areFlowers() {
        begin(20);
        ask("two SETS or more -- two", STAR, 1, "isFlower(3)", "isFlower(17)");
        ask("two SETS or more -- one", STAR, 0, "isFlower(1)", "isFlower(16)");
        ask("two SETS or more -- none", STAR, 0, "isFlower(0)");
        ask("two SETS or more -- none of none", "6", 0, "isFlower(0)");
        ask("each two meet in just the same POINTS", STAR, 1, "isFlower(7)");
        ask("each two meet in just the same POINTS -- two of them do not", STAR, 0, "isFlower(15)", "isFlower(11)", "isFlower(31)");
        ask("it may be empty", TEN, 1, "isFlower(1023)", "isFlower(0x300)");
        ask("or be one of them", "6 ab abc abd", 1, "isFlower(7)");
        ask("each two meet in just the same POINTS -- all 16", SIXTEEN, 0, "isFlower(65535)");
        ask("each two meet in just the same POINTS -- the last two of 16", SIXTEEN, 1, "isFlower(0xc000)");
        bitsOfSets("isFlower");
    }

    private static void theirCores() {
        begin(21);
        ask("it may be empty", TEN, 0, "core(1023)", "core(3)");
        ask("or be one of them", "6 abc abd ab", p("ab"), "core(7)");
        ask("-2: they are none -- one SET", STAR, -2, "core(1)", "core(16)");
        ask("-2: they are none -- no SET", STAR, -2, "core(0)");
        ask("-2: they are none -- no SET of none", "6", -2, "core(0)");
        ask("-2: they are none -- two meet in others", STAR, -2, "core(15)", "core(11)", "core(19)");
        ask("CORE of some SETS that are a SUNFLOWER -- nine points", "10 abcdefghi abcdefghij", 511, "core(3)");
        bitsOfSets("core");
    }

    private static void theGreatest() {
        begin(22);
        String first = "The GREATEST: the first of those with the most SETS";
        ask(first, STAR, s(0, 1, 2), "greatest(0)");
        ask(first + " -- the later one has more", "6 ab ac bc d e f", s(0, 3, 4, 5), "greatest(0)");
        ask("1 how many -- two", "6 a b", 2, "greatest(1)");
        ask("1 how many -- ten", TEN, 10, "greatest(1)");
        ask("2 its CORE -- none", TEN, 0, "greatest(2)");
        ask("2 its CORE -- one of them", "6 ab a", p("a"), "greatest(2)");
        String fewer = "-2: there are fewer than two SETS";
        ask(fewer + " -- none", "6", -2, "greatest(0)", "greatest(1)", "greatest(2)");
        ask(fewer + " -- one", "6 ab", -2, "greatest(0)", "greatest(1)", "greatest(2)");
        ask(fewer + " -- two", "6 ab abc", s(0, 1), "greatest(0)");
        ask("NONE for others", STAR, NONE, "greatest(3)", "greatest(-1)", "greatest(MOST)", "greatest(LEAST)");
        ask("Where NONE and -2 could both be told, it is NONE", "6 ab", NONE, "greatest(3)", "greatest(-1)");
        ask("Where NONE and -2 could both be told, it is NONE", "6", NONE, "greatest(3)", "greatest(-1)");
    }

    private static void outOf2To16(String name) {
        for (String family : new String[] {"6", "6 ab", STAR, SIXTEEN}) {
            ask("NONE: out of bounds -- below 2", family, NONE, name + "(1)", name + "(0)", name + "(-1)", name + "(LEAST)");
            ask("NONE: out of bounds -- above 16", family, NONE, name + "(17)", name + "(18)", name + "(MOST)");
        }
    }
    private static void theFirstFlower() {
        begin(23);
        ask("(2 .. 16) -- 2", STAR, s(0, 1), "flower(2)");
        ask("the first is that with the least bits of its SETS' numbers", "6 ab a b c d", s(1, 2, 3), "flower(3)");
        ask("the first is that with the least bits of its SETS' numbers -- the highest counts", "6 a ab b c", s(0, 2, 3), "flower(3)");
        ask("The first SUNFLOWER of just k SETS -- of a greater one", TEN, s(0, 1, 2, 3), "flower(4)");
        ask("The first SUNFLOWER of just k SETS -- as many as there can be", TEN, 1023, "flower(10)");
        ask("-2: there is none -- (2 .. 16) 16", SIXTEEN, -2, "flower(16)");
        ask("-2: there is none -- a CORE that is one of them counts once", "6 b a ab", -2, "flower(3)");
        ask("-2: there is none", STAR, -2, "flower(4)", "flower(5)");
        ask("-2: there is none -- fewer SETS than k", STAR, -2, "flower(6)", "flower(16)");
        ask("-2: there is none -- one SET", "6 ab", -2, "flower(2)");
        ask("-2: there is none -- no SETS", "6", -2, "flower(2)", "flower(16)");
        outOf2To16("flower");
    }

    private static void howManyFlowers() {
        begin(24);
        ask("SUNFLOWERS of just k SETS (2 .. 16) -- 2: all pairs", SIXTEEN, 120, "flowers(2)");
        ask("SUNFLOWERS of just k SETS (2 .. 16) -- 16: none", SIXTEEN, 0, "flowers(16)");
        ask("SUNFLOWERS of just k SETS (2 .. 16) -- all of ten", TEN, 1, "flowers(10)");
        ask("SUNFLOWERS of just k SETS (2 .. 16) -- one less", TEN, 10, "flowers(9)");
        ask("SUNFLOWERS of just k SETS (2 .. 16) -- one more", TEN, 0, "flowers(11)");
        ask("SUNFLOWERS of just k SETS (2 .. 16) -- a CORE that is one of them counts once", "6 b a ab", 0, "flowers(3)");
        ask("SUNFLOWERS of just k SETS (2 .. 16) -- a CORE that is one of them counts once", "6 b a ab ac", 0, "flowers(4)");
        ask("SUNFLOWERS of just k SETS (2 .. 16) -- one SET", "6 ab", 0, "flowers(2)");
        ask("SUNFLOWERS of just k SETS (2 .. 16) -- no SETS", "6", 0, "flowers(2)", "flowers(16)");
        outOf2To16("flowers");
    }

    private static void flowersByCore() {
        begin(25);
        ask("bits of POINTS, none, too", STAR, 3, "byCore(0, 0)");
        ask("bits of POINTS, none, too", STAR, s(2, 3, 4), "byCore(0, 1)");
        ask("1 the first such (bits) -- of several", "4 ab ac bd cd", s(1, 2), "byCore(0, 1)");
        ask("1 the first such (bits) -- the last of more SETS than POINTS", "3 abc ab ac a b c", s(3, 4, 5), "byCore(0, 1)");
        ask("with such a CORE -- it is one of them", "6 ab a cd ac", s(0, 1, 3), "byCore(a, 1)");
        ask("with such a CORE -- just such", CHAIN, 2, "byCore(a, 0)", "byCore(ab, 0)", "byCore(abc, 0)");
        ask("-2: there is none -- in one SET", STAR, -2, "byCore(d, 0)", "byCore(d, 1)", "byCore(ab, 0)");
        ask("-2: there is none -- in no SET", STAR, -2, "byCore(abcdef, 0)", "byCore(abcdef, 1)");
        ask("-2: there is none -- all meet", CHAIN, -2, "byCore(0, 0)", "byCore(0, 1)");
        ask("-2: there is none -- one SET", "6 ab", -2, "byCore(0, 0)", "byCore(ab, 0)");
        ask("-2: there is none -- no SETS", "6", -2, "byCore(0, 0)", "byCore(0, 1)");
        ask("NONE: other POINTS", STAR, NONE, "byCore(g, 0)", "byCore(65, 1)", "byCore(MOST, 0)");
        ask("NONE: other POINTS -- of ten", TEN, NONE, "byCore(1024, 0)");
        ask("below 0", STAR, NONE, "byCore(-1, 0)", "byCore(LEAST, 1)");
        ask("another what", STAR, NONE, "byCore(0, 2)", "byCore(0, -1)", "byCore(0, MOST)", "byCore(0, LEAST)");
        ask("Where NONE and -2 could both be told, it is NONE", "6", NONE, "byCore(0, 2)", "byCore(0, -1)", "byCore(g, 0)", "byCore(-1, 1)");
    }

    private static void howManyCores() {
        begin(26);
        ask("unlike CORES -- the empty one, too", STAR, 4, "cores(2)");
        ask("unlike CORES -- two SUNFLOWERS with one", TEN, 1, "cores(2)", "cores(9)", "cores(10)");
        ask("unlike CORES -- of a chain", CHAIN, 3, "cores(2)");
        ask("unlike CORES -- more SETS than POINTS", "3 a b c ab ac bc abc", 7, "cores(2)");
        ask("unlike CORES -- one SET meets two others in the same", "6 ab abc ad", 2, "cores(2)");
        ask("unlike CORES -- of more SETS fewer", STAR, 2, "cores(3)");
        ask("SUNFLOWERS of just k SETS (2 .. 16) have -- none", STAR, 0, "cores(4)", "cores(16)");
        ask("SUNFLOWERS of just k SETS (2 .. 16) have -- 16 SETS", SIXTEEN, 0, "cores(16)");
        ask("SUNFLOWERS of just k SETS (2 .. 16) have -- one SET", "6 ab", 0, "cores(2)");
        ask("SUNFLOWERS of just k SETS (2 .. 16) have -- no SETS", "6", 0, "cores(2)", "cores(16)");
        outOf2To16("cores");
    }

    private static void theMost() {
        begin(27);
        ask("of several the least bits", STAR, s(0, 1, 3, 4), "most(3)");
        ask("of several the least bits -- not with the first SET", "10 a bc bd cd ef eg fg", 126, "most(3)");
        ask("of several the least bits -- of ten", TEN, s(0, 1, 2), "most(4)");
        ask("of several the least bits -- more SETS than POINTS", "3 abc ab a b c", s(0, 1, 2, 3), "most(3)");
        ask("FREE of k (2 .. 16) -- a CORE that is one of them counts once", "6 ab a b", 7, "most(3)");
        ask("FREE of k (2 .. 16) -- 2: one alone", STAR, 1, "most(2)");
        ask("FREE of k (2 .. 16) -- 16: all", SIXTEEN, 65535, "most(16)");
        ask("FREE of k (2 .. 16) -- all but one", TEN, 511, "most(10)");
        ask("FREE of k (2 .. 16) -- all", TEN, 1023, "most(11)");
        ask("FREE of k (2 .. 16) -- one SET", "6 ab", 1, "most(2)", "most(16)");
        ask("FREE of k (2 .. 16) -- no SETS", "6", 0, "most(2)", "most(16)");
        outOf2To16("most");

        begin(28);
        ask("at least -- none must", STAR, 0, "surplus(4)", "surplus(16)");
        ask("at least -- one must", STAR, 1, "surplus(3)");
        ask("at least -- all but one", STAR, 4, "surplus(2)");
        ask("at least -- all but one of 16", SIXTEEN, 15, "surplus(2)");
        ask("FREE of k (2 .. 16) -- 16", SIXTEEN, 0, "surplus(16)");
        ask("FREE of k (2 .. 16) -- one SET", "6 ab", 0, "surplus(2)", "surplus(16)");
        ask("FREE of k (2 .. 16) -- no SETS", "6", 0, "surplus(2)", "surplus(16)");
        outOf2To16("surplus");
    }

    private static void unevenPetals() {
        begin(29);
        String first = "The first pair of PETALS of a SUNFLOWER";
        ask(first + " -- the first and the last", "6 ab cd e", 2, "uneven(7)");
        ask(first + " -- the first of several", "6 ab c de f", 1, "uneven(15)");
        ask(first + " -- not with SETS that are not told", "6 ab c de f", 102, "uneven(6)");
        ask("100 times the lesser number and the other one -- 0 and 15", FIFTEEN + " bcdghij", 15, "uneven(0x8001)");
        ask("100 times the lesser number and the other one -- 1 and 10", FIFTEEN, 110, "uneven(0x402)");
        ask("100 times the lesser number and the other one -- 14 and 15", FIFTEEN + " bcdghij", 1415, "uneven(0xc000)");
        ask("each without the CORE -- it is one of them", "6 a ab ac", 1, "uneven(7)");
        ask("each without the CORE -- all alike", "6 abc abd abe", -2, "uneven(7)");
        ask("-2: there is none", TEN, -2, "uneven(1023)", "uneven(3)");
        ask("it is no SUNFLOWER -- one SET", STAR, -2, "uneven(1)", "uneven(16)");
        ask("it is no SUNFLOWER -- no SET", STAR, -2, "uneven(0)");
        ask("it is no SUNFLOWER -- no SET of none", "6", -2, "uneven(0)");
        ask("it is no SUNFLOWER -- though they differ", CHAIN, -2, "uneven(7)", "uneven(15)");
        bitsOfSets("uneven");
    }

    private static void pairsPartsRanks() {
        begin(30);
        ask("meet in just so many POINTS (0 .. 10) -- 0", STAR, 5, "pairs(0)");
        ask("meet in just so many POINTS (0 .. 10) -- 10: no two are the same", "10 abcdefghij abcdefghi", 0, "pairs(10)");
        ask("meet in just so many POINTS (0 .. 10) -- 9", "10 abcdefghij abcdefghi", 1, "pairs(9)");
        ask("meet in just so many POINTS (0 .. 10) -- not in more", CHAIN, 3, "pairs(1)");
        ask("meet in just so many POINTS (0 .. 10) -- more than there are", "1 a", 0, "pairs(2)", "pairs(10)");
        ask("meet in just so many POINTS (0 .. 10) -- one SET", "6 ab", 0, "pairs(0)", "pairs(2)");
        ask("meet in just so many POINTS (0 .. 10) -- no SETS", "6", 0, "pairs(0)", "pairs(10)");
        ask("NONE: out of bounds", STAR, NONE, "pairs(-1)", "pairs(11)", "pairs(MOST)", "pairs(LEAST)");
        ask("NONE: out of bounds -- no SETS", "6", NONE, "pairs(-1)", "pairs(11)");

        begin(31);
        ask("Into how many parts SETS fall -- no SETS", "6", 0, "parts()");
        ask("Into how many parts SETS fall -- one SET", "6 ab", 1, "parts()");
        ask("Into how many parts SETS fall -- each alone", TEN, 10, "parts()");
        ask("two that meet are in one -- all in one", CHAIN, 1, "parts()");
        ask("two that meet are in one -- by others", "10 ij gh ef cd ab hi fg de bc", 1, "parts()");
        ask("two that meet are in one -- the last joins two", "10 ab cd ef bc", 2, "parts()");
        ask("two that meet are in one -- two of two", "10 ab cd bi d", 2, "parts()");

        begin(32);
        ask("the most first", "4 b bc bd cd c", 1, "ranked(0)");
        ask("the most first -- the least last", "4 b bc bd cd c", 0, "ranked(3)");
        ask("of alike ones by numbers", "4 b bc bd cd c", 2, "ranked(1)");
        ask("of alike ones by numbers -- those in none", "6 f", 0, "ranked(1)");
        ask("of alike ones by numbers -- those in none", "6 f", 4, "ranked(5)");
        ask("of alike ones by numbers -- no SETS", "6", 5, "ranked(5)");
        ask("of alike ones by numbers -- all of ten", TEN, 9, "ranked(9)");
        ask("NONE: no such k", STAR, NONE, "ranked(6)", "ranked(-1)", "ranked(7)", "ranked(MOST)", "ranked(LEAST)");
        ask("NONE: no such k -- of ten", TEN, NONE, "ranked(10)");
        ask("NONE: no such k -- of one", "1 a", NONE, "ranked(1)");
        ask("NONE: no such k -- no SETS", "6", NONE, "ranked(6)", "ranked(-1)");
    }

    // ---- spread, bounds

    private static void spreads() {
        begin(33);
        ask("are no more than -- just as many", "6 a b", 1, "spread(2, 1)");
        ask("are no more than -- one more", "6 a ab", -101, "spread(2, 1)");
        ask("are no more than -- just as many of two POINTS", "10 ab c d e", 1, "spread(2, 1)");
        ask("are no more than -- one more of two POINTS", "10 ab c d", -103, "spread(2, 1)");
        ask("fewer POINTS ahead", "6 ab f cf", -100 - 32, "spread(2, 1)");
        ask("then the least bits -- of one POINT", "6 ef", -100 - 16, "spread(9, 1)");
        ask("then the least bits -- of two POINTS", "10 cd ab f", -103, "spread(2, 1)");
        ask("whether one of SETS or not -- it is none", "10 abc d e", -103, "spread(2, 1)");
        String large = "10 abcdefghij a b c d e f g h i j ab cd";
        ask("as -100 less its bits -- nine POINTS", large, -100 - 511, "spread(4, 3)");
        ask("as -100 less its bits -- all of ten", large + " ef gh", -100 - 1023, "spread(4, 3)");
        ask("1 POINT or more -- not none", "10 a b c d e f g h i", 1, "spread(9, 1)");
        ask("by p and q (1 .. 9 each) -- 1 and 1", STAR, 1, "spread(1, 1)");
        ask("by p and q (1 .. 9 each) -- 9 and 9", STAR, 1, "spread(9, 9)");
        ask("by p and q (1 .. 9 each) -- 9 and 1", STAR, -101, "spread(9, 1)");
        ask("by p and q (1 .. 9 each) -- 1 and 9", STAR, 1, "spread(1, 9)");
        ask("by p and q (1 .. 9 each) -- 9 and 8 of ten, far beyond an int", "10 abcdefghij", -101, "spread(9, 8)");
        ask("by p and q (1 .. 9 each) -- 8 and 9 of ten, far beyond an int", "10 abcdefghij", 1, "spread(8, 9)");
        ask("are no more than -- no SETS", "6", 1, "spread(9, 1)", "spread(1, 1)");
        ask("NONE: out of bounds -- p", STAR, NONE, "spread(0, 1)", "spread(10, 1)", "spread(-1, 1)", "spread(MOST, 1)", "spread(LEAST, 1)");
        ask("NONE: out of bounds -- q", STAR, NONE, "spread(1, 0)", "spread(1, 10)", "spread(1, -1)", "spread(1, MOST)", "spread(1, LEAST)");
        ask("NONE: out of bounds -- no SETS", "6", NONE, "spread(0, 1)", "spread(10, 1)", "spread(1, 0)", "spread(1, 10)");

        begin(34);
        ask("The greatest p (1 .. 9) -- 1", "6 a", 1, "spreadest()");
        ask("The greatest p (1 .. 9) -- 8", "10 a b c d e f g h", 8, "spreadest()");
        ask("The greatest p (1 .. 9) -- 9", "10 a b c d e f g h i", 9, "spreadest()");
        ask("The greatest p (1 .. 9) -- it could be 10", TEN, 9, "spreadest()");
        ask("The greatest p (1 .. 9) -- by two POINTS less", "10 ab cd ef gh", 2, "spreadest()");
        ask("The greatest p (1 .. 9) -- by three POINTS less", "10 abc d e f g h i", 1, "spreadest()");
        ask("The greatest p (1 .. 9) -- by the last POINT less", "6 f ef", 1, "spreadest()");
        ask("The greatest p (1 .. 9) -- by all POINTS alone less", "3 abc a b c", 1, "spreadest()");
        ask("The greatest p (1 .. 9) -- by three POINTS less, just so", "10 abc d e f g h i j", 2, "spreadest()");
        ask("-2: by none, there are no SETS", "6", -2, "spreadest()");
    }

    private static void bounds() {
        begin(35);
        String most = "1000000000 at most";
        ask(most + " -- just below", STAR, 720000000, "bound(6, 11)");
        ask(most + " -- beyond it, within an int", STAR, 1000000000, "bound(6, 12)", "bound(7, 7)");
        ask(most + " -- beyond an int", STAR, 1000000000, "bound(10, 3)", "bound(9, 4)", "bound(8, 5)");
        ask(most + " -- as far as it goes", STAR, 1000000000, "bound(10, 16)");
        ask("BOUND of a SIZE (1 .. 10) -- 1", STAR, 1, "bound(1, 2)");
        ask("BOUND of a SIZE (1 .. 10) -- 10", STAR, 3628800, "bound(10, 2)");
        ask("and k (2 .. 16) -- 16", STAR, 15, "bound(1, 16)");
        ask("and k (2 .. 16) -- 16", STAR, 91125000, "bound(5, 16)");
        ask("NONE: out of bounds -- SIZE", STAR, NONE, "bound(0, 2)", "bound(11, 2)", "bound(-1, 2)", "bound(MOST, 2)", "bound(LEAST, 2)");
        ask("NONE: out of bounds -- k", STAR, NONE, "bound(1, 1)", "bound(1, 17)", "bound(1, 0)", "bound(1, -1)", "bound(1, MOST)", "bound(1, LEAST)");
        ask("BOUND of a SIZE (1 .. 10) -- no SETS, one POINT", "1", 3628800, "bound(10, 2)");

        begin(36);
        ask("have a SIZE (0 .. 10) -- 0: a SET is not empty", STAR, 0, "sized(0)");
        ask("have a SIZE (0 .. 10) -- 1", TEN, 10, "sized(1)");
        ask("have a SIZE (0 .. 10) -- 10", "10 a abcdefghij", 1, "sized(10)");
        ask("have a SIZE (0 .. 10) -- more than there are POINTS", STAR, 0, "sized(7)", "sized(10)");
        ask("have a SIZE (0 .. 10) -- no SETS", "6", 0, "sized(0)", "sized(1)", "sized(10)");
        ask("NONE: out of bounds", STAR, NONE, "sized(-1)", "sized(11)", "sized(MOST)", "sized(LEAST)");
        ask("NONE: out of bounds -- no SETS", "6", NONE, "sized(-1)", "sized(11)");
    }

    // ---- hitters

    private static void otherPoints(String name) {
        ask("NONE: other POINTS", STAR, NONE, name + "(g)", name + "(127)", name + "(65)", name + "(0x40000000)", name + "(MOST)");
        ask("NONE: other POINTS -- of ten", TEN, NONE, name + "(1024)", name + "(2047)");
        ask("NONE: other POINTS -- of one", "1 a", NONE, name + "(b)", name + "(ab)");
        ask("NONE: other POINTS -- no SETS", "6", NONE, name + "(g)");
        ask("below 0", STAR, NONE, name + "(-1)", name + "(-64)", name + "(LEAST)");
        ask("below 0 -- no SETS", "6", NONE, name + "(-1)");
    }
    private static void whatOf(String name, int least, int most) {
        for (String family : new String[] {"6", "6 ab", STAR, SIXTEEN}) {
            ask("NONE for others", family, NONE, name + "(" + (least - 1) + ")", name + "(" + (most + 1) + ")", name + "(MOST)", name + "(LEAST)");
        }
    }
    private static void hittersAndMissed() {
        begin(37);
        ask("POINTS (bits; none, too) that hit all SETS -- none hit none", "6", 1, "hits(0)");
        ask("POINTS (bits; none, too) that hit all SETS -- none", "6 ab", 0, "hits(0)");
        ask("POINTS (bits; none, too) that hit all SETS -- all POINTS", STAR, 1, "hits(abcdef)");
        ask("POINTS (bits; none, too) that hit all SETS -- all POINTS of ten", TEN, 1, "hits(1023)");
        ask("POINTS (bits; none, too) that hit all SETS -- all but one", TEN, 0, "hits(511)", "hits(1022)");
        ask("if one of them is in it -- no more", "6 abcdef", 1, "hits(f)");
        otherPoints("hits");

        begin(38);
        ask("SETS that POINTS (bits) do not hit -- none hit none", STAR, 31, "missed(0)");
        ask("SETS that POINTS (bits) do not hit -- no SETS", "6", 0, "missed(0)", "missed(63)");
        ask("SETS that POINTS (bits) do not hit -- all 16", SIXTEEN, 65535, "missed(0)");
        ask("SETS that POINTS (bits) do not hit -- all are hit", SIXTEEN, 0, "missed(1023)");
        ask("SETS that POINTS (bits) do not hit -- the last", STAR, s(4), "missed(abcd)");
        otherPoints("missed");
    }

    private static void leastHitters() {
        begin(39);
        ask("POINTS (bits; none, too) that hit all SETS -- no SETS", "6", 0, "hitter(0)", "hitter(1)", "hitter(3)");
        ask("POINTS (bits; none, too) that hit all SETS -- no SETS", "6", 1, "hitter(2)");
        ask("LEAST, if it has the fewest POINTS -- all of ten", TEN, 10, "hitter(0)");
        ask("LEAST, if it has the fewest POINTS -- one", CHAIN, 1, "hitter(0)");
        ask("1 the one with the least bits", "6 ef ab", p("ae"), "hitter(1)");
        ask("1 the one with the least bits -- the only one", TEN, 1023, "hitter(1)");
        ask("LEAST, if it has the fewest POINTS -- another one has less bits", "6 ac bc", 1, "hitter(0)", "hitter(2)");
        ask("LEAST, if it has the fewest POINTS -- another one has less bits", "6 ac bc", p("c"), "hitter(1)", "hitter(3)");
        ask("2 how many there are -- one", TEN, 1, "hitter(2)");
        ask("2 how many there are -- each POINT", "10 abcdefghij", 10, "hitter(2)");
        ask("3 POINTS that are in all of them (bits) -- none", "6 ab", 0, "hitter(3)");
        ask("3 POINTS that are in all of them (bits) -- some", STAR, p("a"), "hitter(3)");
        ask("3 POINTS that are in all of them (bits) -- all", TEN, 1023, "hitter(3)");
        whatOf("hitter", 0, 3);

        begin(40);
        ask("how many (k NONE) -- no SETS: the empty one", "6", 1, "tight(NONE)");
        ask("the k-th by bits -- no SETS: the empty one", "6", 0, "tight(0)");
        ask("-2: there are not so many -- no SETS", "6", -2, "tight(1)");
        ask("how many (k NONE)", STAR, 6, "tight(NONE)");
        ask("the k-th by bits -- the first", STAR, p("abe"), "tight(0)");
        ask("the k-th by bits -- the last", STAR, p("bcdf"), "tight(5)");
        ask("-2: there are not so many", STAR, -2, "tight(6)", "tight(7)", "tight(1024)", "tight(MOST)");
        ask("TIGHT, if without any one of its POINTS it is none -- all POINTS", TEN, 1023, "tight(0)");
        ask("TIGHT, if without any one of its POINTS it is none -- all POINTS", TEN, -2, "tight(1)");
        ask("TIGHT, if without any one of its POINTS it is none -- the last four of ten", "10 ghij", 4, "tight(NONE)");
        ask("TIGHT, if without any one of its POINTS it is none -- not LEAST", "6 ab ac", p("bc"), "tight(1)");
        ask("NONE: k below NONE", STAR, NONE, "tight(-2)", "tight(-3)", "tight(LEAST)");
        ask("NONE: k below NONE -- no SETS", "6", NONE, "tight(-2)");
    }

    private static void greedily() {
        begin(41);
        ask("of several the first", "6 ef cd", p("ce"), "greedy(1)");
        ask("of several the first -- the first taken", "6 ef cd", 2, "greedy(2)");
        ask("in the most SETS not hit yet -- not in the most of all", "10 ab abd abe af ch ci", p("ac"), "greedy(1)");
        ask("in the most SETS not hit yet -- more than the fewest", "6 ad ae bd ce", 3, "greedy(0)");
        ask("till all are hit -- no SETS", "6", 0, "greedy(0)", "greedy(1)");
        ask("till all are hit -- all of ten", TEN, 10, "greedy(0)");
        ask("till all are hit -- all of ten", TEN, 1023, "greedy(1)");
        ask("till all are hit -- by the last POINT", "10 j", 9, "greedy(2)");
        ask("-2: none was taken", "6", -2, "greedy(2)");
        whatOf("greedy", 0, 2);
    }

    private static void apartAndExact() {
        begin(42);
        ask("SETS of which no two meet -- no SETS", "6", 0, "apart(0)", "apart(1)");
        ask("SETS of which no two meet -- one SET", "6 ab", 1, "apart(0)", "apart(1)");
        ask("SETS of which no two meet -- all meet", CHAIN, 1, "apart(0)", "apart(1)");
        ask("SETS of which no two meet -- all", TEN, 10, "apart(0)");
        ask("SETS of which no two meet -- all", TEN, 1023, "apart(1)");
        ask("1 the first such (least bits)", "4 ab ac bd cd", s(1, 2), "apart(1)");
        ask("The most SETS that are APART -- the last of more SETS than POINTS", "3 abc ab ac a b c", s(3, 4, 5), "apart(1)");
        ask("The most SETS that are APART -- not the first", "6 abc a b c", s(1, 2, 3), "apart(1)");
        whatOf("apart", 0, 1);

        begin(43);
        ask("without SETS: 1", "6", 1, "exact(0)");
        ask("without SETS: 1 -- the empty row", "6", 0, "exact(1)");
        ask("all POINTS that are in some SET -- not all there are", "6 ab", 1, "exact(0)", "exact(1)");
        ask("all POINTS that are in some SET -- in the last of more SETS than POINTS", "3 a b ab ac", s(1, 3), "exact(1)");
        ask("all POINTS that are in some SET -- in the last of more SETS than POINTS", "3 a b ab ac", 1, "exact(0)");
        ask("all POINTS that are in some SET -- all of ten", TEN, 1023, "exact(1)");
        ask("1 the one with the least bits", "6 b ab a", s(1), "exact(1)");
        ask("1 the one with the least bits -- two lesser ones", "6 b a ab", s(0, 1), "exact(1)");
        ask("0 how many such rows of SETS there are", "6 b a ab", 2, "exact(0)");
        ask("0 how many such rows of SETS there are -- none", "6 ab bc", 0, "exact(0)");
        ask("-2: there is none", "6 ab bc", -2, "exact(1)");
        ask("-2: there is none -- APART, but not all", "6 ab bc d", -2, "exact(1)");
        ask("SETS that are APART -- all together, but not APART", "6 ab bc ca", -2, "exact(1)");
        askBehind("-2: there is none -- there was one", "6 ab", "exact(1)", "add(bc)", "exact(1)", -2);
        askBehind("without SETS: 1 -- they went", "6 ab", "exact(1)", "drop(0)", "exact(1)", 0);
        whatOf("exact", 0, 1);
    }

    private static void halving() {
        begin(44);
        ask("bits; none, too -- no SETS", "6", 64, "halves(0)");
        ask("bits; none, too -- no SETS", "6", 0, "halves(1)");
        ask("bits; none, too -- no SETS, ten POINTS", "10", 1024, "halves(0)");
        ask("each SET of two POINTS or more -- of one are left out", TEN, 1024, "halves(0)");
        ask("each SET of two POINTS or more -- of one are left out", TEN, 0, "halves(1)");
        ask("each SET of two POINTS or more -- of two", "2 ab", 2, "halves(0)");
        ask("has one at least", "2 ab", 1, "halves(1)");
        ask("has one at least -- the last two of ten", "10 ij", p("i"), "halves(1)");
        ask("but not all of its own", "3 ab abc", 4, "halves(0)");
        ask("but not all of its own -- the least bits", "4 ab bc cd", p("ac"), "halves(1)");
        ask("0 how many -- none", "3 ab bc ca", 0, "halves(0)");
        ask("-2: there is none", "3 ab bc ca", -2, "halves(1)");
        whatOf("halves", 0, 1);
    }

    // ---- kernels

    /** a, and 15 sets that have it within them. */
    private static final String ALL_WITH_A = "5 a ab ac ad ae abc abd abe acd ace ade abcd abce abde acde abcde";
    private static final String FOUR = "6 ab ac ad bc";
    /** All pairs of six points, and g: for 5 no step can be done. */
    private static final String FIFTEEN_PAIRS = "7 ab ac ad ae af bc bd be bf cd ce cf de df ef";
    private static final String PAIRS = FIFTEEN_PAIRS + " g";

    private static void keptKernels() {
        begin(45);
        String from = "from SETS on";
        askBehind(from + " -- the first is another one", "6 ab ac ad", "kernel(2, 0)", "change(0, f)", "kernel(2, 0)", 3);
        askBehind(from + " -- one in the middle is another one", "6 ab ac ad", "kernel(2, 0)", "change(1, f)", "kernel(2, 0)", 3);
        askBehind(from + " -- the last is another one", "6 ab ac ad", "kernel(2, 0)", "change(2, f)", "kernel(2, 0)", 3);
        askBehind(from + " -- the last went", "6 ab ac ad", "kernel(2, 0)", "drop(2)", "kernel(2, 0)", 2);
        askBehind(from + " -- one came", "6 ab ac", "kernel(2, 0)", "add(ad)", "kernel(2, 0)", 1);
        askBehind(from + " -- the first came", "6", "kernel(2, 0)", "add(ad)", "kernel(2, 0)", 1);
        askBehind(from + " -- all are others", "6 ab ac ad", "kernel(2, 0)", "turn()", "kernel(2, 4)", p("b"));
        askBehind(from + " -- all went", "6 ab", "kernel(2, 0)", "drop(0)", "kernel(2, 0)", 0);
        askBehind(from + " -- they were undone", "6 ab ac ad", "kernel(2, 0)", "undo()", "kernel(2, 4)", p("a"));
        askBehind(from + " -- a text told others", "6 ab ac ad", "kernel(2, 0)", "text()", "kernel(2, 4)", p("ab"));
        askBehind(from + " -- nothing happened", "6 ab ac ad", "kernel(2, 0)", "add(ab)", "kernel(2, 0)", 1);
        askBehind(from + " -- it was LOST", "6 ab c", "kernel(1, 0)", "drop(1)", "kernel(1, 0)", 1);
        askBehind(from + " -- it was not LOST", "6 ab", "kernel(1, 0)", "add(c)", "kernel(1, 0)", -2);
        askBehind("A KERNEL for b POINTS (1 .. 5) -- another b", "6 ab ac ad", "kernel(2, 0)", "kernel(3, 0)", "kernel(3, 1)", 0);
        askBehind("A KERNEL for b POINTS (1 .. 5) -- another b", "6 ab ac ad", "kernel(3, 0)", "kernel(1, 0)", "kernel(1, 1)", 2);
        begin(46);
        askBehind("The k-th SET of the KERNEL for b -- the SETS are others", "6 ab ac ad", "kernelSet(2, 0)", "change(0, f)", "kernelSet(2, 0)", p("f"));
        askBehind("The k-th SET of the KERNEL for b -- another b", "6 ab ac ad", "kernelSet(2, 0)", "count(0)", "kernelSet(3, 0)", p("ab"));
        begin(47);
        askBehind("The k-th step to the KERNEL for b -- the SETS are others", "6 ab ac ad", "step(2, 0, 0)", "change(0, f)", "step(2, 0, 0)", NONE);
        askBehind("The k-th step to the KERNEL for b -- another b", "6 ab ac ad", "step(2, 0, 0)", "count(0)", "step(1, 0, 1)", s(0, 1));
        begin(54);
        askBehind("Steps to the KERNEL for b as a TEXT -- the SETS are others", "6 ab ac ad", "report(2, NONE)", "change(0, f)", "report(2, NONE)", "left 3;".length());
        askBehind("Steps to the KERNEL for b as a TEXT -- another b", "6 ab ac ad", "report(2, NONE)", "count(0)", "report(3, NONE)", "left 3;".length());
        begin(14);
        askBehind("SETS become the KERNEL for b -- asked for with another b", "6 ab ac ad", "kernel(3, 0)", "kernel(2, 0)", "reduce(3)", NONE);
        askBehind("SETS become the KERNEL for b -- of other SETS", "6 ab ac ad", "kernel(2, 0)", "change(0, f)", "reduce(2)", NONE);
    }

    private static void kernelsSteps() {
        begin(45);
        String within = "0 WITHIN: the first SET that has another one within it goes";
        ask(within, "6 ab a abc", 1, "kernel(1, 0)");
        ask(within + " -- 15 of 16", ALL_WITH_A, 15, "kernel(1, 1)", "kernel(5, 1)", "kernel(3, 2)");
        ask(within + " -- 15 of 16", ALL_WITH_A, 0, "kernel(3, 3)");
        ask("the first of these that can be -- WITHIN ahead of FLOWER", "6 ab ac a", 2, "kernel(1, 2)");
        ask("the first of these that can be -- WITHIN ahead of FLOWER", "6 ab ac a", 0, "kernel(1, 3)");
        ask("1 FLOWER: the first SUNFLOWER of b + 1 SETS -- b 1", "6 ab ac", 1, "kernel(1, 3)");
        ask("1 FLOWER: the first SUNFLOWER of b + 1 SETS -- b 5", "7 ab ac ad ae af ag", 1, "kernel(5, 3)");
        ask("1 FLOWER: the first SUNFLOWER of b + 1 SETS -- one SET less", "7 ab ac ad ae af", 0, "kernel(5, 3)", "kernel(5, 1)");
        ask("It ends where no step can be done -- at once", STAR, 0, "kernel(3, 1)", "kernel(3, 2)", "kernel(3, 3)");
        ask("It ends where no step can be done -- at once", STAR, 5, "kernel(3, 0)");
        ask("It ends where no step can be done -- at once, 16 SETS", PAIRS, 16, "kernel(5, 0)");
        ask("It ends where no step can be done -- one SET", "6 ab", 1, "kernel(1, 0)");
        ask("It ends where no step can be done -- no SETS", "6", 0, "kernel(1, 0)", "kernel(1, 1)", "kernel(1, 2)", "kernel(1, 3)", "kernel(1, 4)");
        ask("4 all its POINTS (bits)", FOUR, p("abc"), "kernel(2, 4)");
        ask("4 all its POINTS (bits) -- of the 16th SET, too", PAIRS, 127, "kernel(5, 4)");
        ask("4 all its POINTS (bits) -- all of ten", "10 abcdefghij", 1023, "kernel(5, 4)");
        ask("-2: it is LOST -- at once", LOST_AT_ONCE, -2, "kernel(1, 0)", "kernel(5, 0)", "kernel(1, 4)", "kernel(5, 4)");
        ask("-2: it is LOST -- behind a step", LOST_LATE, -2, "kernel(1, 0)", "kernel(1, 4)");
        ask("if its CORE is empty -- though another one's is not", "6 a b cd ce", -2, "kernel(1, 0)");
        ask("if its CORE is empty -- though another one's is not", "6 a b cd ce", 0, "kernel(1, 1)");
        ask("and nothing more is done (that is no step)", LOST_AT_ONCE, 0, "kernel(1, 1)", "kernel(1, 2)", "kernel(1, 3)");
        ask("but 1, 2, 3: as many as were done", LOST_LATE, 1, "kernel(1, 1)", "kernel(1, 2)");
        ask("but 1, 2, 3: as many as were done", LOST_LATE, 0, "kernel(1, 3)");
        ask("but 1, 2, 3: as many as were done -- of both kinds", STAR, 2, "kernel(1, 1)");
        ask("but 1, 2, 3: as many as were done -- of both kinds", STAR, 1, "kernel(1, 2)", "kernel(1, 3)");
        ask("NONE: out of bounds -- b", STAR, NONE, "kernel(0, 0)", "kernel(6, 0)", "kernel(-1, 0)", "kernel(MOST, 0)", "kernel(LEAST, 0)");
        ask("NONE: out of bounds -- what", STAR, NONE, "kernel(3, 5)", "kernel(3, -1)", "kernel(3, MOST)", "kernel(3, LEAST)");
        ask("Where NONE and -2 could both be told, it is NONE", TEN, NONE, "kernel(1, 5)", "kernel(1, -1)", "kernel(0, 0)", "kernel(6, 4)");
        ask("NONE: out of bounds -- no SETS", "6", NONE, "kernel(0, 0)", "kernel(6, 0)", "kernel(1, 5)", "kernel(1, -1)");

        begin(46);
        ask("The k-th SET of the KERNEL for b -- the first", FOUR, p("bc"), "kernelSet(2, 0)");
        ask("the CORE comes behind all others", FOUR, p("a"), "kernelSet(2, 1)");
        ask("The k-th SET of the KERNEL for b -- the last of 16", PAIRS, p("g"), "kernelSet(5, 15)");
        ask("The k-th SET of the KERNEL for b -- the only one", ALL_WITH_A, p("a"), "kernelSet(1, 0)", "kernelSet(5, 0)");
        ask("-2: it is LOST -- at once", LOST_AT_ONCE, -2, "kernelSet(1, 0)", "kernelSet(5, 0)");
        ask("-2: it is LOST -- behind a step", LOST_LATE, -2, "kernelSet(1, 0)");
        ask("NONE: out of bounds -- b", FOUR, NONE, "kernelSet(0, 0)", "kernelSet(6, 0)", "kernelSet(-1, 0)", "kernelSet(MOST, 0)", "kernelSet(LEAST, 0)");
        ask("NONE: out of bounds -- k", FOUR, NONE, "kernelSet(2, -1)", "kernelSet(2, LEAST)");
        ask("it has not so many", FOUR, NONE, "kernelSet(2, 2)", "kernelSet(2, 3)", "kernelSet(2, 16)", "kernelSet(2, 17)", "kernelSet(2, MOST)");
        ask("it has not so many -- of 16", PAIRS, NONE, "kernelSet(5, 16)", "kernelSet(5, 17)");
        ask("it has not so many -- no SETS", "6", NONE, "kernelSet(1, 0)", "kernelSet(5, 0)");
        ask("Where NONE and -2 could both be told, it is NONE", TEN, NONE, "kernelSet(0, 0)", "kernelSet(6, 0)", "kernelSet(1, -1)");
    }

    private static void eachStep() {
        begin(47);
        ask("0 its kind -- WITHIN", LOST_LATE, 0, "step(1, 0, 0)");
        ask("0 its kind -- FLOWER", FOUR, 1, "step(2, 0, 0)");
        ask("the first SET that has another one within it goes", "6 b ac a ab", s(1), "step(1, 0, 1)");
        ask("1 SETS that went (bits by their numbers then) -- those behind it are one less", "6 ab a abc", s(1), "step(1, 1, 1)");
        String went = "1 SETS that went (bits by their numbers then)";
        ask(went + " -- the last of 16 alone", FIFTEEN_PAIRS + " abc", s(15), "step(5, 0, 1)");
        ask(went + " -- the last of 16 with others", FIFTEEN_PAIRS + " ag", s(0, 1, 2, 3, 4, 15), "step(5, 0, 1)");
        ask(went + " -- the first SUNFLOWER", "6 ab ac bc", s(0, 1), "step(1, 0, 1)");
        ask("2 the SET that came (WITHIN: -2)", FOUR, p("a"), "step(2, 0, 2)");
        ask("2 the SET that came (WITHIN: -2) -- WITHIN", LOST_LATE, -2, "step(1, 0, 2)");
        ask("3 how many SETS there were behind it -- WITHIN", LOST_LATE, 2, "step(1, 0, 3)");
        ask("3 how many SETS there were behind it -- FLOWER", FOUR, 2, "step(2, 0, 3)");
        ask("3 how many SETS there were behind it -- one", ALL_WITH_A, 1, "step(1, 14, 3)");
        ask("3 how many SETS there were behind it -- 15", ALL_WITH_A, 15, "step(1, 0, 3)");
        ask("The k-th step to the KERNEL for b -- behind a CORE that came", STAR, 0, "step(1, 1, 0)");
        ask("NONE: no such ones -- b", FOUR, NONE, "step(0, 0, 0)", "step(6, 0, 0)", "step(-1, 0, 0)", "step(MOST, 0, 0)", "step(LEAST, 0, 0)");
        ask("NONE: no such ones -- k", FOUR, NONE, "step(2, 1, 0)", "step(2, -1, 0)", "step(2, 16, 0)", "step(2, MOST, 0)", "step(2, LEAST, 0)");
        ask("NONE: no such ones -- what", FOUR, NONE, "step(2, 0, 4)", "step(2, 0, -1)", "step(2, 0, MOST)", "step(2, 0, LEAST)");
        ask("NONE: no such ones -- the 16th", ALL_WITH_A, NONE, "step(1, 15, 0)", "step(1, 16, 0)");
        ask("NONE: no such ones -- no SETS", "6", NONE, "step(1, 0, 0)", "step(5, 0, 3)");
        ask("(that is no step) -- it is LOST at once", LOST_AT_ONCE, NONE, "step(1, 0, 0)", "step(5, 0, 0)");
        ask("(that is no step) -- it is LOST behind one", LOST_LATE, NONE, "step(1, 1, 0)", "step(1, 1, 2)");
        ask("Where NONE and -2 could both be told, it is NONE", LOST_LATE, NONE, "step(0, 0, 2)", "step(6, 0, 2)", "step(1, 1, 2)", "step(1, -1, 2)");

        begin(48);
        ask("a HITTER of b POINTS or fewer (b 0 .. 10) -- 0 without SETS", "6", 1, "can(0)");
        ask("a HITTER of b POINTS or fewer (b 0 .. 10) -- 0", "6 ab", 0, "can(0)");
        ask("a HITTER of b POINTS or fewer (b 0 .. 10) -- one too few", STAR, 0, "can(2)");
        ask("a HITTER of b POINTS or fewer (b 0 .. 10) -- just so many", STAR, 1, "can(3)");
        ask("a HITTER of b POINTS or fewer (b 0 .. 10) -- or fewer", STAR, 1, "can(4)", "can(6)", "can(10)");
        ask("a HITTER of b POINTS or fewer (b 0 .. 10) -- 10", TEN, 1, "can(10)");
        ask("a HITTER of b POINTS or fewer (b 0 .. 10) -- 9 of ten", TEN, 0, "can(9)");
        ask("a HITTER of b POINTS or fewer (b 0 .. 10) -- more than there are", "1 a", 1, "can(1)", "can(2)", "can(10)");
        ask("NONE: out of bounds", STAR, NONE, "can(-1)", "can(11)", "can(MOST)", "can(LEAST)");
        ask("NONE: out of bounds -- no SETS", "6", NONE, "can(-1)", "can(11)");
    }

    // ---- were

    private static void links() {
        begin(49);
        ask("the empty one left out", STAR, 0, "link(ab, 0)", "link(ef, 0)");
        ask("the empty one left out -- beside others", CHAIN, 3, "link(a, 0)");
        ask("Of SETS that have all of some POINTS -- none of them: all SETS", STAR, 5, "link(0, 0)");
        ask("Of SETS that have all of some POINTS -- none of them: all SETS", SIXTEEN, 16, "link(0, 0)");
        ask("Of SETS that have all of some POINTS -- all POINTS", STAR, 0, "link(abcdef, 0)");
        ask("Of SETS that have all of some POINTS -- no SETS", "6", 0, "link(0, 0)", "link(63, 0)");
        ask("1 how many SETS their GREATEST has", "6 abc ab ad aef c", 3, "link(a, 1)");
        ask("-2: there are fewer than two -- none", STAR, -2, "link(ab, 1)", "link(abcdef, 1)");
        ask("-2: there are fewer than two -- one", STAR, -2, "link(e, 1)", "link(d, 1)");
        ask("-2: there are fewer than two -- one, the empty one left out", "6 a ab", -2, "link(a, 1)");
        ask("-2: there are fewer than two -- two", "6 a ab ac", 2, "link(a, 1)");
        ask("-2: there are fewer than two -- no SETS", "6", -2, "link(0, 1)");
        ask("NONE: other POINTS", STAR, NONE, "link(g, 0)", "link(65, 1)", "link(MOST, 0)");
        ask("NONE: other POINTS -- of ten", TEN, NONE, "link(1024, 0)");
        ask("below 0", STAR, NONE, "link(-1, 0)", "link(LEAST, 1)");
        ask("another what", STAR, NONE, "link(0, 2)", "link(0, -1)", "link(0, MOST)", "link(0, LEAST)");
        ask("Where NONE and -2 could both be told, it is NONE", "6", NONE, "link(0, 2)", "link(0, -1)", "link(g, 1)", "link(-1, 1)");
    }

    private static void withAndWithout() {
        String nine = "10 a b c d e f g h i ab ac ad ae af ag ah";
        begin(50);
        ask("though there are 16 -- it makes the GREATEST", nine, 10, "withSet(j)");
        ask("though there are 16 -- it does not", nine, 9, "withSet(ai)", "withSet(abcdefghij)");
        ask("one that there is: as it is", STAR, 3, "withSet(ab)", "withSet(ef)");
        ask("one that there is: as it is -- of 16", nine, 9, "withSet(a)", "withSet(ah)");
        ask("one that there is: as it is -- the only one", "6 ab", -2, "withSet(ab)");
        ask("-2: fewer than two -- the first one", "6", -2, "withSet(a)", "withSet(abcdef)");
        ask("-2: fewer than two -- the second one", "6 ab", 2, "withSet(f)");
        ask("NONE: it is empty", STAR, NONE, "withSet(0)");
        ask("of other POINTS", STAR, NONE, "withSet(g)", "withSet(65)", "withSet(MOST)", "withSet(-1)", "withSet(LEAST)");
        ask("of other POINTS -- of ten", TEN, NONE, "withSet(1024)");
        ask("of other POINTS -- of one", "1 a", NONE, "withSet(b)");
        ask("Where NONE and -2 could both be told, it is NONE", "6", NONE, "withSet(0)", "withSet(g)", "withSet(-1)");

        begin(51);
        ask("were a SET not there -- one of the GREATEST", STAR, 2, "withoutSet(2)");
        ask("were a SET not there -- another one is as great", STAR, 3, "withoutSet(0)", "withoutSet(4)");
        ask("were a SET not there -- the 16th", nine, 9, "withoutSet(15)");
        ask("were a SET not there -- the first of 16", nine, 8, "withoutSet(0)");
        ask("-2: fewer than two -- one less than two", "6 a b", -2, "withoutSet(0)", "withoutSet(1)");
        ask("-2: fewer than two -- one less than one", "6 a", -2, "withoutSet(0)");
        ask("-2: fewer than two -- one less than three", "6 a ab abc", 2, "withoutSet(0)", "withoutSet(2)");
        ask("NONE: no such SET", STAR, NONE, "withoutSet(5)", "withoutSet(-1)", "withoutSet(16)", "withoutSet(32)", "withoutSet(-32)", "withoutSet(MOST)", "withoutSet(LEAST)");
        ask("NONE: no such SET -- the 17th", nine, NONE, "withoutSet(16)");
        ask("Where NONE and -2 could both be told, it is NONE", "6", NONE, "withoutSet(0)", "withoutSet(-1)");
        ask("Where NONE and -2 could both be told, it is NONE", "6 a", NONE, "withoutSet(1)", "withoutSet(-1)");
    }

    private static void freeOnes() {
        begin(52);
        ask("The first SET that there is not -- without SETS", "6", 1, "freeNext(2)", "freeNext(16)");
        ask("The first SET that there is not -- those that there are left out", "6 a b", p("c"), "freeNext(4)");
        ask("fewer POINTS ahead", "3 a b c", p("ab"), "freeNext(4)");
        ask("then the least bits", "6 a", p("b"), "freeNext(3)");
        ask("then the least bits -- of two POINTS", "3 a b c ab", p("ac"), "freeNext(4)");
        ask("would still be FREE of k -- fewer POINTS would not", "3 a b", p("ab"), "freeNext(3)");
        ask("would still be FREE of k -- fewer POINTS would not", "6 a b c", p("ab"), "freeNext(4)");
        String rising = "10 a b ab abc abcd abcde abcdef abcdefg abcdefgh";
        ask("would still be FREE of k -- but nine of ten would not", rising, 511, "freeNext(3)");
        ask("would still be FREE of k -- but all of ten would not", rising + " abcdefghi", 1023, "freeNext(3)");
        ask("-2: there is none -- no SET of ten POINTS", rising + " abcdefghi abcdefghij", -2, "freeNext(3)");
        ask("FREE of k (2 .. 16) -- 16, though there are 16", SIXTEEN, p("bc"), "freeNext(16)");
        ask("-2: there is none -- 2, but one SET", "6 a", -2, "freeNext(2)");
        ask("-2: there is none -- they are not FREE of k now", STAR, -2, "freeNext(2)", "freeNext(3)");
        ask("-2: there is none -- all are told", "1 a", -2, "freeNext(2)", "freeNext(16)");
        ask("-2: there is none -- all are told", "2 b ab a", -2, "freeNext(16)");
        ask("-2: there is none -- all 15 are told", "4 a b c d ab ac ad bc bd cd abc abd acd bcd abcd", -2, "freeNext(16)");
        ask("The first SET that there is not -- all POINTS", "4 a b c d ab ac ad bc bd cd abc abd acd bcd", p("abcd"), "freeNext(16)");
        ask("The first SET that there is not -- the last one", "4 a b c d ab ac ad bc bd cd abc abd acd abcd", p("bcd"), "freeNext(16)");
        outOf2To16("freeNext");
    }

    // ---- texts

    private static void spelled(String family, String want) {
        ask("i NONE how many bytes", family, want.length(), "spell(NONE)");
        ask("0 on: the i-th -- the first", family, 'p', "spell(0)");
        ask("0 on: the i-th -- the last", family, ';', "spell(" + (want.length() - 1) + ")");
        ask("-2: there are not so many", family, -2, "spell(" + want.length() + ")", "spell(" + (want.length() + 1) + ")", "spell(MOST)");
        ask("NONE: i below NONE", family, NONE, "spell(-2)", "spell(LEAST)");
        PetalSets x = make(family);
        StringBuilder got = new StringBuilder();
        for (int i = 0; x.spell(i) >= 0 && i < 400; i++) got.append((char) x.spell(i));
        due("POINTS, SETS as a TEXT (letters rising)", "spell of " + family, got.toString(), want);
        due("POINTS, SETS as a TEXT (letters rising) -- it can be read", "text of " + want, tell(new PetalSets(), want), family.split(" ").length - 1);
    }
    private static void spelling() {
        begin(53);
        spelled("6", "points 6;");
        spelled("1", "points 1;");
        spelled("9 i", "points 9;set i;");
        spelled("10", "points 10;");
        spelled(STAR, "points 6;set ab;set ac;set ad;set bc;set ef;");
        spelled("10 jihgfedcba j ba", "points 10;set abcdefghij;set j;set ab;");
        spelled(SIXTEEN, textOf(SIXTEEN));
        String long16 = "10 abcdefghij bcdefghij acdefghij abdefghij abcefghij abcdfghij abcdeghij abcdefhij abcdefgij abcdefghj abcdefghi"
            + " cdefghij bdefghij befghij abghij abcdhij";
        due("-2: there are not so many -- the text of large SETS", "spell(NONE)", make(long16).spell(NONE), textOf(long16).length());
        PetalSets x = make(long16);
        for (int i = 0; i < textOf(long16).length(); i++) {
            due("0 on: the i-th -- the text of large SETS", "spell(" + i + ")", x.spell(i), (int) textOf(long16).charAt(i));
        }
        due("-2: there are not so many -- the text of large SETS", "spell", x.spell(textOf(long16).length()), -2);
    }

    private static void reported(String words, String family, int b, String want) {
        PetalSets x = make(family);
        StringBuilder got = new StringBuilder();
        for (int i = 0; x.report(b, i) >= 0 && i < 200; i++) got.append((char) x.report(b, i));
        due(words, "report(" + b + ", i) of " + family, got.toString(), want);
        ask("i NONE how many bytes", family, want.length(), "report(" + b + ", NONE)");
        ask("0 on: the i-th -- the first", family, want.charAt(0), "report(" + b + ", 0)");
        ask("0 on: the i-th -- the last", family, ';', "report(" + b + ", " + (want.length() - 1) + ")");
        ask("-2: there are not so many", family, -2, "report(" + b + ", " + want.length() + ")", "report(" + b + ", MOST)");
        ask("i below NONE", family, NONE, "report(" + b + ", -2)", "report(" + b + ", LEAST)");
    }
    private static void reporting() {
        begin(54);
        reported("else left N; (how many SETS) -- no SETS", "6", 1, "left 0;");
        reported("else left N; (how many SETS) -- no step", STAR, 5, "left 5;");
        reported("else left N; (how many SETS) -- 16", PAIRS, 5, "left 16;");
        reported("behind all lost; if it is LOST -- at once", LOST_AT_ONCE, 5, "lost;");
        reported("behind all lost; if it is LOST -- behind steps", STAR, 1, "flower 0 1 core a;within 0;lost;");
        reported("within N; (the SET's number) -- 0", "6 ab a", 1, "within 0;left 1;");
        reported("within N; (the SET's number) -- 9", "10 a b c d e f g h i ij", 5, "within 9;lost;");
        reported("else left N; (how many SETS) -- 9", "7 ab ac ad bc bd cd ef eg fg", 5, "left 9;");
        reported("else left N; (how many SETS) -- 10", "7 ab ac ad bc bd cd ef eg fg ae", 5, "left 10;");
        reported("within N; (the SET's number) -- of two digits", FIFTEEN_PAIRS + " abc", 5, "within 15;left 15;");
        reported("within N; (the SET's number) -- 15 of them", ALL_WITH_A, 1, "within 1;".repeat(15) + "left 1;");
        reported("numbers of its SETS, rising; letters rising", "10 jba jbc jbd", 2, "flower 0 1 2 core bj;left 1;");
        reported("numbers of its SETS, rising; letters rising -- of two digits", FIFTEEN_PAIRS + " ag", 5, "flower 0 1 2 3 4 15 core a;left 11;");
        ask("NONE: b out of bounds", STAR, NONE, "report(0, 0)", "report(6, 0)", "report(0, NONE)", "report(6, NONE)", "report(-1, 0)", "report(MOST, 0)", "report(LEAST, 0)");
        ask("Where NONE and -2 could both be told, it is NONE", STAR, NONE, "report(0, MOST)", "report(6, MOST)");
    }

    private static void counting() {
        begin(55);
        ask("0 POINTS", "1", 1, "count(0)");
        ask("0 POINTS", "10", 10, "count(0)");
        ask("1 SETS -- none", "6", 0, "count(1)");
        ask("1 SETS -- 16", SIXTEEN, 16, "count(1)");
        ask("2 POINTS that are in some SET (bits) -- none", "6", 0, "count(2)");
        ask("2 POINTS that are in some SET (bits) -- the first and the last", "10 j a", p("aj"), "count(2)");
        ask("2 POINTS that are in some SET (bits) -- in the last of more SETS than POINTS", "3 a b ab ac", p("abc"), "count(2)");
        ask("2 POINTS that are in some SET (bits) -- all", TEN, 1023, "count(2)");
        ask("3 ACTS that can be undone", "6 a", 3, "count(3)");
        ask("3 ACTS that can be undone -- one", SIXTEEN, 1, "count(3)");
        PetalSets x = new PetalSets();
        due("3 ACTS that can be undone -- none", "count(3)", x.count(3), 0);
        for (int i = 1; i <= 14; i++) x.add(i);
        due("3 ACTS that can be undone -- 12 at most", "count(3)", x.count(3), 12);
        for (int i = 0; i < 12; i++) x.undo();
        due("3 ACTS that can be undone -- none more", "count(3)", x.count(3), 0);
        ask("4 bytes of the tape", "6 a", 12, "count(4)");
        due("4 bytes of the tape -- none", "count(4)", new PetalSets().count(4), 0);
        due("4 bytes of the tape -- 400", "count(4)", fed(400).count(4), 400);
        ask("5 the greatest SIZE", "10 a abcdefghij ab", 10, "count(5)");
        ask("5 the greatest SIZE -- one SET", "6 ab", 2, "count(5)");
        ask("6 the least one", "10 abc a abcdefghij", 1, "count(6)");
        ask("6 the least one -- the first", "10 a abc", 1, "count(6)");
        ask("6 the least one -- all POINTS", "10 abcdefghij", 10, "count(6)");
        ask("5, 6: -2: there are no SETS", "6", -2, "count(5)", "count(6)");
        ask("NONE for others", STAR, NONE, "count(7)", "count(-1)", "count(8)", "count(MOST)", "count(LEAST)");
        ask("NONE for others -- no SETS", "6", NONE, "count(7)", "count(-1)");
        x = new PetalSets();
        x.add(3);
        for (int i = 0; i < 510; i++) x.turn();
        due("An object is used for at most 512 calls -- the last of them", "count(2)", x.count(2), 3);
    }

    // ---- all of them

    /** Looks for each case's words in the document: in its promise's section, or ahead of the promises. */
    private static void lookInto(String document) throws IOException {
        String doc = Files.readString(Path.of(document));
        String ahead = doc.substring(0, doc.indexOf("## Promise 1:"));
        for (int i = 1; i <= PROMISES; i++) {
            int from = doc.indexOf("## Promise " + i + ":");
            int to = doc.indexOf("\n## ", from);
            String section = ahead + doc.substring(from, to);
            for (String words : cases.get(i)) {
                String told = words.split(" -- ")[0];
                if (!section.contains(told)) {
                    wrong++;
                    System.out.println("promise " + i + ": the document has no words \"" + told + "\"");
                }
            }
        }
    }

    public static void main(String[] args) throws IOException {
        for (int i = 0; i <= PROMISES; i++) cases.add(new ArrayList<>());
        aNewObject();
        feeding();
        goingBack();
        textsThatAreRead();
        textsWithAFault();
        textAndAllElse();
        adding();
        dropping();
        changing();
        swapping();
        leavingOut();
        keepingOnly();
        joining();
        turning();
        flipping();
        reducing();
        thinning();
        undoing();
        askingOfSets();
        degrees();
        havings();
        areFlowers();
        theirCores();
        theGreatest();
        theFirstFlower();
        howManyFlowers();
        flowersByCore();
        howManyCores();
        theMost();
        unevenPetals();
        pairsPartsRanks();
        spreads();
        bounds();
        hittersAndMissed();
        leastHitters();
        greedily();
        apartAndExact();
        halving();
        keptKernels();
        kernelsSteps();
        eachStep();
        links();
        withAndWithout();
        freeOnes();
        spelling();
        reporting();
        counting();
        int many = 0;
        for (int i = 1; i <= PROMISES; i++) {
            many += cases.get(i).size();
            promise = i;
            if (cases.get(i).isEmpty()) due("it has a case", "this promise", false, true);
        }
        if (args.length > 0) lookInto(args[0]);
        System.out.println(many + " cases, " + tried + " answers, " + wrong + " of them not as due");
        if (wrong != 0) System.exit(1);
    }
}
