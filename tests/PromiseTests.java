/** For each promise of the document answers worked out by hand: ordinary ones, edges, wrong inputs. */
public final class PromiseTests {
    private static final int NONE = -1;
    private static int wrong = 0;
    private static int asked = 0;
    private static int promise = 0;

    private static void due(String call, int got, int want) {
        asked++;
        if (got != want) {
            wrong++;
            System.out.println("promise " + promise + ": " + call + " answered " + got + ", due is " + want);
        }
    }
    private static void due(String call, boolean got, boolean want) { due(call, got ? 1 : 0, want ? 1 : 0); }

    private static void feed(PetalSets x, String t) {
        byte[] all = new byte[(t.length() + 19) / 20 * 20];
        for (int i = 0; i < t.length(); i++) all[i] = (byte) t.charAt(i);
        for (int i = 0; i < all.length; i += 20) {
            int[] w = new int[5];
            for (int j = 0; j < 20; j++) w[j / 4] = w[j / 4] << 8 | all[i + j] & 255;
            x.feed(w[0], w[1], w[2], w[3], w[4]);
        }
        x.back(all.length - t.length());
    }
    private static int tell(PetalSets x, String t) {
        feed(x, t);
        return x.text();
    }
    /** An object of n points with the sets, told with a blank between each two. */
    private static PetalSets of(int n, String sets) {
        PetalSets x = new PetalSets();
        StringBuilder t = new StringBuilder("points " + n + ";");
        int many = 0;
        for (String s : sets.split(" ")) if (!s.isEmpty()) { t.append("set ").append(s).append(";"); many++; }
        due("the text " + t, tell(x, t.toString()), many);
        return x;
    }
    private static void sets(PetalSets x, int... bits) {
        due("count(1)", x.count(1), bits.length);
        for (int i = 0; i < bits.length; i++) due("set(" + i + ", 0)", x.set(i, 0), bits[i]);
    }
    private static void spelled(PetalSets x, String want) {
        due("spell(NONE)", x.spell(NONE), want.length());
        for (int i = 0; i < want.length(); i++) due("spell(" + i + ") of " + want, x.spell(i), want.charAt(i));
        due("spell behind it", x.spell(want.length()), -2);
    }
    private static void reported(PetalSets x, int b, String want) {
        due("report(" + b + ", NONE)", x.report(b, NONE), want.length());
        for (int i = 0; i < want.length(); i++) due("report(" + b + ", " + i + ") of " + want, x.report(b, i), want.charAt(i));
        due("report behind it", x.report(b, want.length()), -2);
    }

    /** Five sets: three that meet in a, three that are apart. */
    private static PetalSets star() { return of(6, "ab ac ad bc ef"); }
    /** Each within the next. */
    private static PetalSets chain() { return of(4, "a ab abc abcd"); }
    private static PetalSets sixteen() { return of(5, "a b c d e ab ac ad ae bc bd be cd ce de abc"); }

    private static void told() {
        promise = 1;
        PetalSets x = new PetalSets();
        int[] counts = {6, 0, 0, 0, 0, -2, -2, NONE};
        for (int i = 0; i < counts.length; i++) due("count(" + i + ")", x.count(i), counts[i]);
        promise = 2;
        for (int i = 1; i <= 20; i++) due("feed", x.feed(0x20202020, 0x20202020, 0x20202020, 0x20202020, 0x20202020), 20 * i);
        due("feed beyond 400", x.feed(1, 2, 3, 4, 5), NONE);
        due("count(4)", x.count(4), 400);
        due("back", x.back(1), 399);
        due("feed beyond 400", x.feed(1, 2, 3, 4, 5), NONE);
        due("back", x.back(19), 380);
        due("feed", x.feed(1, 2, 3, 4, 5), 400);
        due("back", x.back(20), 380);
        due("text of blanks", x.text(), 0);
        x.feed(0x73657420, 0x6162633b, 0x73657420, 0x64653b73, 0x65742066);
        x.feed(0x3b000000, -1, 0, 0, 0);
        x.back(19);
        due("text over the words' edges", x.text(), 3);
        sets(x, 7, 24, 32);
        x.feed(0x73657420, 0x613b2020, 0x20202020, 0x20202020, 0x202020ff);
        due("a byte of 255", x.text(), -4 - 19);
        x.feed(0x80202020, 0x20202020, 0x20202020, 0x20202020, 0x20202020);
        due("a byte of 128", x.text(), -4);
        promise = 3;
        due("back(0)", x.back(0), 0);
        due("back(1)", x.back(1), NONE);
        x.feed(1, 2, 3, 4, 5);
        due("back(-1)", x.back(-1), NONE);
        due("back(least)", x.back(Integer.MIN_VALUE), NONE);
        due("back(21)", x.back(21), NONE);
        due("back(7)", x.back(7), 13);
        due("back(14)", x.back(14), NONE);
        due("back(13)", x.back(13), 0);
    }

    private static void text(String t, int want) {
        PetalSets x = new PetalSets();
        due("text of " + t.replace('\n', '/'), tell(x, t), want);
        due("the tape behind " + t, x.count(4), 0);
    }
    private static void texts() {
        promise = 4;
        text("", 0);
        text(" \n ", 0);
        text("points 10;", 0);
        text("points 01;set a;", 1);
        text("\npoints\n3 \n;\nset\n\nabc ;set\nca\n;\n", 2);
        text("set a;set b;", 2);
        text("se", -4);
        text("poin", -4);
        text("sets a;", -4);
        text(" seta;", -5);
        text("pointsset", -4);
        text("Set a;", -4);
        text("set", -7);
        text("set ", -8);
        text("set a", -9);
        text("set a \n", -11);
        text("points", -10);
        text("points ", -11);
        text("points 7", -12);
        text("points 12", -11);
        text("points;", -10);
        text("points7;", -10);
        text("points ;", -11);
        text("points a;", -11);
        text("points 7 8;", -13);
        text("points 7set a;", -12);
        text("points 7\tset a;", -12);
        text("points 0;", -11);
        text("points 00;", -11);
        text("points 11;", -11);
        text("points 99;", -11);
        text("points 007;", -11);
        text("points 4294967297;", -11);
        text("points -1;", -11);
        text("points 3;points 3;", -13);
        text("set a;points 3;", -10);
        text("point 3;", -4);
        text(";", -4);
        text("7", -4);
        text("\t", -4);
        text("set ;", -8);
        text("set;", -7);
        text("set1 a;", -7);
        text("set 1;", -8);
        text("set A;", -8);
        text("set aA;", -9);
        text("set a1;", -9);
        text("set a b;", -10);
        text("set a;;", -10);
        text("set a set b;", -10);
        text("set abcb;", -8);
        text("set aa", -8);
        text("set g;", -8);
        text("set abg;", -8);
        text("set z", -8);
        text("points 3;set d;", -17);
        text("points 3;set cab;", 1);
        text("set ab;set ba;", -15);
        text("set ab; set a;set  ba", -23);
        StringBuilder many = new StringBuilder("points 10;");
        for (int i = 0; i < 16; i++) many.append("set ").append("abcdefghij".charAt(i % 10)).append(i < 10 ? "" : "" + "bcdefghij".charAt(i - 10)).append(";");
        text(many.toString(), 16);
        text(many + " ", 16);
        text(many + " set", -4 - many.length() - 1);
        text(many + "set a;", -4 - many.length());
        text(many + "sex a;", -4 - many.length());
        text(many + ";", -4 - many.length());

        PetalSets x = star();
        x.add(7);
        due("text with a fault", tell(x, "set a;set"), -4 - 9);
        sets(x, 3, 5, 9, 6, 48, 7);
        due("acts stay", x.count(3), 1);
        due("the tape goes", x.count(4), 0);
        due("points with a fault behind", tell(x, "points 9;set"), -4 - 12);
        due("points stay", x.count(0), 6);
        due("text", tell(x, "points 9;set i;"), 1);
        due("points", x.count(0), 9);
        due("acts are forgotten", x.count(3), 0);
        due("undo", x.undo(), NONE);
        due("text", tell(x, ""), 0);
        due("six points without their number", x.count(0), 6);
    }

    private static void addDropChange() {
        promise = 5;
        PetalSets x = of(3, "a");
        due("add(6)", x.add(6), 1);
        due("add(7)", x.add(7), 2);
        due("add(0)", x.add(0), NONE);
        due("add(8)", x.add(8), NONE);
        due("add(-1)", x.add(-1), NONE);
        due("add(9)", x.add(9), NONE);
        due("add(least)", x.add(Integer.MIN_VALUE), NONE);
        due("add of one told", x.add(1), NONE);
        due("acts", x.count(3), 2);
        sets(x, 1, 6, 7);
        x = sixteen();
        due("add a 17th", x.add(31), NONE);
        due("acts", x.count(3), 0);
        x.drop(15);
        due("add a 16th", x.add(31), 15);

        promise = 6;
        x = star();
        due("drop(5)", x.drop(5), false);
        due("drop(-1)", x.drop(-1), false);
        due("acts", x.count(3), 0);
        due("drop(1)", x.drop(1), true);
        sets(x, 3, 9, 6, 48);
        due("drop(3)", x.drop(3), true);
        sets(x, 3, 9, 6);
        due("drop(0)", x.drop(0), true);
        sets(x, 9, 6);
        due("acts", x.count(3), 3);

        promise = 7;
        x = star();
        due("change(1, 32)", x.change(1, 32), 5);
        sets(x, 3, 32, 9, 6, 48);
        due("acts", x.count(3), 1);
        due("change(5, 1)", x.change(5, 1), NONE);
        due("change(-1, 1)", x.change(-1, 1), NONE);
        due("change(0, 0)", x.change(0, 0), NONE);
        due("change(0, 64)", x.change(0, 64), NONE);
        due("change(0, -2)", x.change(0, -2), NONE);
        due("change(0, 48)", x.change(0, 48), NONE);
        due("change to what it is", x.change(0, 3), NONE);
        due("acts", x.count(3), 1);
        due("change back", x.change(1, 5), 32);
    }

    private static void moves() {
        promise = 8;
        PetalSets x = star();
        due("swap(0, 1)", x.swap(0, 1), 3);
        sets(x, 3, 6, 10, 5, 48);
        due("swap(4, 5)", x.swap(4, 5), NONE);
        due("swap(0, 0)", x.swap(0, 0), NONE);
        due("swap(0, 6)", x.swap(0, 6), NONE);
        due("swap(6, 0)", x.swap(6, 0), NONE);
        due("swap(-1, 0)", x.swap(-1, 0), NONE);
        due("acts", x.count(3), 1);
        x = of(3, "a b");
        due("swap(1, 0)", x.swap(1, 0), 2);
        sets(x, 2, 1);
        due("swap(1, 2)", x.swap(1, 2), 1);
        sets(x, 4, 1);
        due("swap(0, 1)", x.swap(0, 1), 1);

        promise = 9;
        x = star();
        due("without(0)", x.without(0), 5);
        sets(x, 2, 4, 8, 6, 48);
        due("without(0) again", x.without(0), NONE);
        due("without(6)", x.without(6), NONE);
        due("without(-1)", x.without(-1), NONE);
        due("acts", x.count(3), 1);
        x = of(3, "a ab b c abc ac");
        due("without(0)", x.without(0), 3);
        sets(x, 2, 4, 6);
        due("without(2)", x.without(2), 1);
        sets(x, 2);
        due("without(1)", x.without(1), 0);
        due("undo", x.undo(), 2);
        sets(x, 2);

        promise = 10;
        x = star();
        due("only(0, true)", x.only(0, true), 2);
        sets(x, 3, 5, 9);
        due("only(0, true) again", x.only(0, true), NONE);
        due("only(1, false)", x.only(1, false), 1);
        sets(x, 5, 9);
        due("only(1, false) again", x.only(1, false), NONE);
        due("only(6, false)", x.only(6, false), NONE);
        due("only(-1, true)", x.only(-1, true), NONE);
        due("acts", x.count(3), 2);
        due("only(5, true)", x.only(5, true), 2);
        sets(x);

        promise = 11;
        x = star();
        due("join(0, 1)", x.join(0, 1), 4);
        sets(x, 1, 5, 9, 48);
        due("join(0, 1) again", x.join(0, 1), NONE);
        due("join(0, 0)", x.join(0, 0), NONE);
        due("join(0, 6)", x.join(0, 6), NONE);
        due("join(6, 0)", x.join(6, 0), NONE);
        due("join(-1, 0)", x.join(-1, 0), NONE);
        due("join(0, -1)", x.join(0, -1), NONE);
        due("acts", x.count(3), 1);
        due("join(1, 5)", x.join(1, 5), 4);
        sets(x, 1, 5, 9, 18);
        x = of(3, "b ab a c");
        due("join(0, 1)", x.join(0, 1), 2);
        sets(x, 1, 4);

        promise = 12;
        x = star();
        due("turn()", x.turn(), 5);
        sets(x, 6, 10, 18, 12, 33);
        x = of(2, "ab a");
        due("turn()", x.turn(), 1);
        sets(x, 3, 2);
        x = of(1, "a");
        due("turn() of one point", x.turn(), NONE);
        x = of(3, "abc");
        due("turn() of all points", x.turn(), NONE);
        due("acts", x.count(3), 0);
        due("turn() of none", new PetalSets().turn(), NONE);

        promise = 13;
        x = of(2, "ab a");
        due("flip()", x.flip(), 1);
        sets(x, 2);
        x = of(2, "ab");
        due("flip() of all points", x.flip(), 0);
        due("flip() of none", x.flip(), NONE);
        due("acts", x.count(3), 1);
        x = star();
        due("flip()", x.flip(), 5);
        sets(x, 60, 58, 54, 57, 15);
    }

    /** A kernel that is kept from the same sets of other points tells nothing of how many points there are. */
    private static void reduceOfOtherPoints(int before, int after) {
        PetalSets x = of(before, "ab ac ad bc");
        due("kernel(2, 0)", x.kernel(2, 0), 2);
        due("the same sets of other points", tell(x, "points " + after + ";set ab;set ac;set ad;set bc;"), 4);
        due("kernel(2, 4)", x.kernel(2, 4), 7);
        due("reduce(2)", x.reduce(2), 2);
        spelled(x, "points " + after + ";set bc;set a;");
        due("count(0)", x.count(0), after);
        due("add of the last point", x.add(1 << after - 1), 2);
        due("add beyond the last point", x.add(1 << after), NONE);
        due("undo", x.undo(), 1);
        due("undo", x.undo(), 0);
        due("count(0)", x.count(0), after);
        sets(x, 3, 5, 9, 6);
    }
    private static void reduceThinUndo() {
        promise = 14;
        PetalSets x = of(6, "ab ac ad bc");
        due("reduce(2)", x.reduce(2), 2);
        sets(x, 6, 1);
        due("reduce(2) again", x.reduce(2), NONE);
        due("acts", x.count(3), 1);
        due("undo", x.undo(), 0);
        sets(x, 3, 5, 9, 6);
        due("reduce(0)", x.reduce(0), NONE);
        due("reduce(6)", x.reduce(6), NONE);
        due("reduce(-1)", x.reduce(-1), NONE);
        due("reduce(3)", x.reduce(3), NONE);
        x = star();
        due("reduce(1), lost", x.reduce(1), -2);
        due("reduce(2), lost", x.reduce(2), -2);
        sets(x, 3, 5, 9, 6, 48);
        due("acts", x.count(3), 0);
        x = of(2, "a b");
        due("reduce(1), lost without a step", x.reduce(1), -2);
        x = chain();
        due("reduce(5)", x.reduce(5), 1);
        sets(x, 1);
        for (int before = 4; before <= 10; before++) for (int after = 4; after <= 10; after++) reduceOfOtherPoints(before, after);

        promise = 15;
        x = star();
        due("thin(4)", x.thin(4), NONE);
        due("thin(1)", x.thin(1), NONE);
        due("thin(17)", x.thin(17), NONE);
        due("acts", x.count(3), 0);
        due("thin(3)", x.thin(3), 1);
        sets(x, 3, 5, 6, 48);
        due("thin(3) again", x.thin(3), NONE);
        due("thin(2)", x.thin(2), 3);
        sets(x, 3);
        due("thin(2) of one", x.thin(2), NONE);
        due("acts", x.count(3), 2);

        promise = 16;
        x = new PetalSets();
        due("undo of a new one", x.undo(), NONE);
        for (int i = 1; i <= 14; i++) x.add(i);
        due("acts", x.count(3), 12);
        x.add(3);
        due("acts", x.count(3), 12);
        for (int i = 11; i >= 0; i--) {
            due("undo", x.undo(), i);
            due("sets", x.count(1), i + 2);
        }
        due("undo of the 13th", x.undo(), NONE);
        sets(x, 1, 2);
        for (int i = 0; i < 30; i++) { x.swap(0, 1); x.undo(); }
        due("acts", x.count(3), 0);
        x.add(63); x.flip(); x.turn(); x.drop(0); x.without(2); x.change(0, 33); x.join(3, 5); x.only(0, false);
        for (int i = x.count(3); i > 0; i--) due("undo", x.undo(), i - 1);
        sets(x, 1, 2);
    }

    private static void asked() {
        promise = 17;
        PetalSets x = chain();
        int[] over = {14, 12, 8, 0};
        for (int i = 0; i < 4; i++) {
            due("set, 0", x.set(i, 0), (2 << i) - 1);
            due("set, 1", x.set(i, 1), i + 1);
            due("set, 2", x.set(i, 2), over[i]);
            due("set, 3", x.set(i, 3), 15 - (1 << i));
        }
        due("set(4, 0)", x.set(4, 0), NONE);
        due("set(-1, 0)", x.set(-1, 0), NONE);
        due("set(0, 4)", x.set(0, 4), NONE);
        due("set(0, -1)", x.set(0, -1), NONE);
        x = star();
        due("set(4, 3)", x.set(4, 3), 0);
        due("set(3, 3)", x.set(3, 3), 3);
        due("set(3, 2)", x.set(3, 2), 0);

        promise = 18;
        int[] degrees = {3, 2, 2, 1, 1, 1};
        for (int p = 0; p < 6; p++) due("degree(" + p + ")", x.degree(p), degrees[p]);
        due("degree(6)", x.degree(6), NONE);
        due("degree(-1)", x.degree(-1), NONE);
        due("degree(9)", of(10, "j abj").degree(9), 2);

        promise = 19;
        due("having(0)", x.having(0), 31);
        due("having(1)", x.having(1), 7);
        due("having(6)", x.having(6), 8);
        due("having(63)", x.having(63), 0);
        due("having(64)", x.having(64), NONE);
        due("having(-1)", x.having(-1), NONE);
        due("having(0) of none", new PetalSets().having(0), 0);
    }

    private static void sunflowers() {
        PetalSets x = star();
        promise = 20;
        due("isFlower(7)", x.isFlower(7), 1);
        due("isFlower(28)", x.isFlower(28), 1);
        due("isFlower(17)", x.isFlower(17), 1);
        due("isFlower(11)", x.isFlower(11), 0);
        due("isFlower(31)", x.isFlower(31), 0);
        due("isFlower(16)", x.isFlower(16), 0);
        due("isFlower(0)", x.isFlower(0), 0);
        due("isFlower(32)", x.isFlower(32), NONE);
        due("isFlower(-1)", x.isFlower(-1), NONE);
        due("isFlower with its core in it", of(6, "a ab acd").isFlower(7), 1);

        promise = 21;
        due("core(7)", x.core(7), 1);
        due("core(28)", x.core(28), 0);
        due("core(9)", x.core(9), 2);
        due("core(11)", x.core(11), -2);
        due("core(4)", x.core(4), -2);
        due("core(0)", x.core(0), -2);
        due("core(32)", x.core(32), NONE);
        due("core(-2)", x.core(-2), NONE);
        due("core that is one of them", of(6, "ab abc abd").core(7), 3);

        promise = 22;
        due("greatest(0)", x.greatest(0), 7);
        due("greatest(1)", x.greatest(1), 3);
        due("greatest(2)", x.greatest(2), 1);
        due("greatest(3)", x.greatest(3), NONE);
        due("greatest(-1)", x.greatest(-1), NONE);
        PetalSets one = of(6, "a");
        due("greatest(0) of one", one.greatest(0), -2);
        due("greatest(2) of one", one.greatest(2), -2);
        due("greatest(3) of one", one.greatest(3), NONE);
        PetalSets y = of(10, "ab bc cd de a b c d e abc");
        due("the later greater one", y.greatest(0), 0b0111110000);
        due("its size", y.greatest(1), 5);
        due("its core", y.greatest(2), 0);

        promise = 23;
        due("flower(2)", x.flower(2), 3);
        due("flower(3)", x.flower(3), 7);
        due("flower(4)", x.flower(4), -2);
        due("flower(16)", x.flower(16), -2);
        due("flower(1)", x.flower(1), NONE);
        due("flower(17)", x.flower(17), NONE);
        due("the least bits, not the least numbers", of(6, "ab a b c d").flower(3), 0b1110);
        due("two highest alike", of(6, "a ab b c").flower(3), 0b1101);

        promise = 24;
        int[] flowers = {NONE, 10, 2, 0};
        for (int k = 1; k <= 4; k++) due("flowers(" + k + ")", x.flowers(k), flowers[k - 1]);
        due("flowers(16)", x.flowers(16), 0);
        due("flowers(17)", x.flowers(17), NONE);
        PetalSets ten = of(10, "a b c d e f g h i j");
        int[] choose = {45, 120, 210, 252, 210, 120, 45, 10, 1, 0};
        for (int k = 2; k <= 11; k++) due("flowers(" + k + ")", ten.flowers(k), choose[k - 2]);

        promise = 25;
        due("byCore(1, 0)", x.byCore(1, 0), 3);
        due("byCore(1, 1)", x.byCore(1, 1), 7);
        due("byCore(0, 0)", x.byCore(0, 0), 3);
        due("byCore(0, 1)", x.byCore(0, 1), 28);
        due("byCore(2, 1)", x.byCore(2, 1), 9);
        due("byCore(4, 1)", x.byCore(4, 1), 10);
        due("byCore(8, 0)", x.byCore(8, 0), -2);
        due("byCore(3, 1)", x.byCore(3, 1), -2);
        due("byCore(64, 0)", x.byCore(64, 0), NONE);
        due("byCore(-1, 0)", x.byCore(-1, 0), NONE);
        due("byCore(0, 2)", x.byCore(0, 2), NONE);
        due("byCore(0, -1)", x.byCore(0, -1), NONE);
        due("byCore of one set", one.byCore(0, 0), -2);

        promise = 26;
        due("cores(2)", x.cores(2), 4);
        due("cores(3)", x.cores(3), 2);
        due("cores(4)", x.cores(4), 0);
        due("cores(1)", x.cores(1), NONE);
        due("cores(17)", x.cores(17), NONE);
        due("cores(2) of a chain", chain().cores(2), 3);
        due("cores(5) of ten", ten.cores(5), 1);

        promise = 27;
        due("most(3)", x.most(3), 27);
        due("most(2)", x.most(2), 1);
        due("most(4)", x.most(4), 31);
        due("most(16)", x.most(16), 31);
        due("most(1)", x.most(1), NONE);
        due("most(17)", x.most(17), NONE);
        due("most(2) of none", new PetalSets().most(2), 0);
        due("most(3) of ten", ten.most(3), 3);
        due("most(10) of ten", ten.most(10), 511);
        due("most(3), where the first set goes", of(10, "a bc bd cd ef eg fg").most(3), 0b1111110);

        promise = 28;
        due("surplus(3)", x.surplus(3), 1);
        due("surplus(2)", x.surplus(2), 4);
        due("surplus(4)", x.surplus(4), 0);
        due("surplus(1)", x.surplus(1), NONE);
        due("surplus(17)", x.surplus(17), NONE);
        due("surplus(3) of ten", ten.surplus(3), 8);
        due("surplus(2) of none", new PetalSets().surplus(2), 0);
    }

    private static void pairsAndParts() {
        promise = 29;
        PetalSets x = of(6, "ab cd e f");
        due("uneven(15)", x.uneven(15), 2);
        due("uneven(3)", x.uneven(3), -2);
        due("uneven(14)", x.uneven(14), 102);
        due("uneven(12)", x.uneven(12), -2);
        due("uneven(10)", x.uneven(10), 103);
        due("uneven(1)", x.uneven(1), -2);
        due("uneven(0)", x.uneven(0), -2);
        due("uneven(16)", x.uneven(16), NONE);
        due("uneven(-1)", x.uneven(-1), NONE);
        due("uneven of no sunflower", of(6, "a ab abc").uneven(7), -2);

        promise = 30;
        x = of(10, "abc abd ef abcdefghij c");
        due("pairs(0)", x.pairs(0), 4);
        due("pairs(1)", x.pairs(1), 2);
        due("pairs(2)", x.pairs(2), 2);
        due("pairs(3)", x.pairs(3), 2);
        due("pairs(10)", x.pairs(10), 0);
        due("pairs(-1)", x.pairs(-1), NONE);
        due("pairs(11)", x.pairs(11), NONE);

        promise = 31;
        due("parts()", star().parts(), 2);
        due("parts() of a chain", chain().parts(), 1);
        due("parts() of none", new PetalSets().parts(), 0);
        due("parts(), joined late", of(10, "ab cd ef gh bc gi fa").parts(), 2);
        due("parts(), a long row told backwards", of(10, "ij gh ef cd ab hi fg de bc").parts(), 1);
        due("parts() of ten", of(10, "a b c d e f g h i j").parts(), 10);

        promise = 32;
        x = of(4, "b bc bd cd c");
        int[] ranks = {1, 2, 3, 0};
        for (int k = 0; k < 4; k++) due("ranked(" + k + ")", x.ranked(k), ranks[k]);
        due("ranked(4)", x.ranked(4), NONE);
        due("ranked(-1)", x.ranked(-1), NONE);
    }

    private static void spreadAndBounds() {
        promise = 33;
        PetalSets x = of(6, "ab f cf");
        due("spread(1, 1)", x.spread(1, 1), 1);
        due("spread(2, 1), one point ahead of two", x.spread(2, 1), -132);
        due("spread(9, 9)", x.spread(9, 9), 1);
        due("spread(3, 2)", x.spread(3, 2), 1);
        due("spread(7, 4)", x.spread(7, 4), -132);
        due("spread(0, 1)", x.spread(0, 1), NONE);
        due("spread(10, 1)", x.spread(10, 1), NONE);
        due("spread(1, 0)", x.spread(1, 0), NONE);
        due("spread(1, 10)", x.spread(1, 10), NONE);
        due("spread of pairs", of(6, "ab cd ef").spread(2, 1), -103);
        due("spread, just so", of(6, "a b").spread(2, 1), 1);
        due("spread, all points alone are too many", of(3, "abc a b c").spread(2, 1), -107);
        due("spread of none", new PetalSets().spread(9, 1), 1);
        due("spread beyond an int", of(10, "abcdefghij").spread(9, 8), -101);
        due("spread of ten points", of(10, "abcdefghij").spread(8, 9), 1);

        promise = 34;
        due("spreadest()", x.spreadest(), 1);
        due("spreadest() of three", of(6, "a b c").spreadest(), 3);
        due("spreadest() of ten", of(10, "a b c d e f g h i j").spreadest(), 9);
        due("spreadest() of pairs", of(10, "ab cd ef gh").spreadest(), 2);
        due("spreadest(), all points alone are too many", of(3, "abc a b c").spreadest(), 1);
        due("spreadest() of none", new PetalSets().spreadest(), -2);
        due("spreadest() of one", of(6, "a").spreadest(), 1);

        promise = 35;
        due("bound(1, 2)", x.bound(1, 2), 1);
        due("bound(2, 3)", x.bound(2, 3), 8);
        due("bound(3, 3)", x.bound(3, 3), 48);
        due("bound(1, 16)", x.bound(1, 16), 15);
        due("bound(5, 5)", x.bound(5, 5), 122880);
        due("bound(10, 2)", x.bound(10, 2), 3628800);
        due("bound(9, 3)", x.bound(9, 3), 185794560);
        due("bound(10, 3)", x.bound(10, 3), 1000000000);
        due("bound(8, 5)", x.bound(8, 5), 1000000000);
        due("bound(10, 16)", x.bound(10, 16), 1000000000);
        due("bound(0, 3)", x.bound(0, 3), NONE);
        due("bound(11, 3)", x.bound(11, 3), NONE);
        due("bound(3, 1)", x.bound(3, 1), NONE);
        due("bound(3, 17)", x.bound(3, 17), NONE);

        promise = 36;
        due("sized(0)", x.sized(0), 0);
        due("sized(1)", x.sized(1), 1);
        due("sized(2)", x.sized(2), 2);
        due("sized(10)", of(10, "abcdefghij").sized(10), 1);
        due("sized(-1)", x.sized(-1), NONE);
        due("sized(11)", x.sized(11), NONE);
    }

    private static void hitters() {
        PetalSets x = star();
        PetalSets none = new PetalSets();
        promise = 37;
        due("hits(19)", x.hits(19), 1);
        due("hits(63)", x.hits(63), 1);
        due("hits(18)", x.hits(18), 0);
        due("hits(0)", x.hits(0), 0);
        due("hits(64)", x.hits(64), NONE);
        due("hits(-1)", x.hits(-1), NONE);
        due("hits(0) of none", none.hits(0), 1);

        promise = 38;
        due("missed(19)", x.missed(19), 0);
        due("missed(1)", x.missed(1), 24);
        due("missed(0)", x.missed(0), 31);
        due("missed(64)", x.missed(64), NONE);
        due("missed(-1)", x.missed(-1), NONE);

        promise = 39;
        int[] least = {3, 19, 4, 1};
        for (int i = 0; i < 4; i++) due("hitter(" + i + ")", x.hitter(i), least[i]);
        due("hitter(4)", x.hitter(4), NONE);
        due("hitter(-1)", x.hitter(-1), NONE);
        int[] empty = {0, 0, 1, 0};
        for (int i = 0; i < 4; i++) due("hitter(" + i + ") of none", none.hitter(i), empty[i]);
        PetalSets ten = of(10, "a b c d e f g h i j");
        int[] all = {10, 1023, 1, 1023};
        for (int i = 0; i < 4; i++) due("hitter(" + i + ") of ten", ten.hitter(i), all[i]);

        promise = 40;
        int[] tight = {19, 21, 30, 35, 37, 46};
        due("tight(NONE)", x.tight(NONE), 6);
        for (int k = 0; k < 6; k++) due("tight(" + k + ")", x.tight(k), tight[k]);
        due("tight(6)", x.tight(6), -2);
        due("tight(-2)", x.tight(-2), NONE);
        due("tight(0), all points", of(2, "a b").tight(0), 3);
        due("tight(NONE) of none", none.tight(NONE), 1);
        due("tight(0) of none", none.tight(0), 0);
        due("tight(1) of none", none.tight(1), -2);

        promise = 41;
        int[] greedy = {3, 19, 0};
        for (int i = 0; i < 3; i++) due("greedy(" + i + ")", x.greedy(i), greedy[i]);
        due("greedy(3)", x.greedy(3), NONE);
        due("greedy(-1)", x.greedy(-1), NONE);
        due("greedy(0) of none", none.greedy(0), 0);
        due("greedy(1) of none", none.greedy(1), 0);
        due("greedy(2) of none", none.greedy(2), -2);
        due("greedy(0) of ten", ten.greedy(0), 10);
        PetalSets late = of(6, "b bc cd e");
        due("greedy(2)", late.greedy(2), 1);
        due("greedy(1)", late.greedy(1), 2 + 4 + 16);
        PetalSets more = of(6, "ad ae bd ce");
        due("the least", more.hitter(0), 2);
        due("greedily more than the least", more.greedy(0), 3);
        due("greedily", more.greedy(1), 7);

        promise = 42;
        due("apart(0)", x.apart(0), 3);
        due("apart(1)", x.apart(1), 28);
        due("apart(2)", x.apart(2), NONE);
        due("apart(-1)", x.apart(-1), NONE);
        due("apart(0) of none", none.apart(0), 0);
        due("apart(1) of none", none.apart(1), 0);
        due("apart(0) of a chain", chain().apart(0), 1);
        due("apart(1) of a chain", chain().apart(1), 1);
        due("apart(1) of several", of(4, "ab cd ac bd").apart(1), 3);

        promise = 43;
        due("exact(0)", x.exact(0), 1);
        due("exact(1)", x.exact(1), 28);
        due("exact(2)", x.exact(2), NONE);
        due("exact(-1)", x.exact(-1), NONE);
        due("exact(0) of none", none.exact(0), 1);
        due("exact(1) of none", none.exact(1), 0);
        PetalSets two = of(6, "ab a b");
        due("exact(0) of two", two.exact(0), 2);
        due("exact(1) of two", two.exact(1), 1);
        two = of(6, "a b ab");
        due("exact(1) of two", two.exact(1), 3);
        PetalSets no = of(6, "ab bc");
        due("exact(0), no way", no.exact(0), 0);
        due("exact(1), no way", no.exact(1), -2);

        promise = 44;
        due("halves(0)", of(2, "ab").halves(0), 2);
        due("halves(1)", of(2, "ab").halves(1), 1);
        due("halves(0) of a triangle", of(3, "ab bc ac").halves(0), 0);
        due("halves(1) of a triangle", of(3, "ab bc ac").halves(1), -2);
        due("halves(0) of points alone", of(2, "a b").halves(0), 4);
        due("halves(1) of points alone", of(2, "a b").halves(1), 0);
        due("halves(0) of none", none.halves(0), 64);
        due("halves(1), the second point", of(4, "bc bd").halves(1), 2);
        due("halves(2)", x.halves(2), NONE);
        due("halves(-1)", x.halves(-1), NONE);
    }

    private static void kernels() {
        PetalSets x = star();
        promise = 45;
        int[] lost = {-2, 2, 1, 1, -2};
        for (int i = 0; i < 5; i++) due("kernel(1, " + i + ")", x.kernel(1, i), lost[i]);
        int[] soon = {-2, 1, 0, 1, -2};
        for (int i = 0; i < 5; i++) due("kernel(2, " + i + ")", x.kernel(2, i), soon[i]);
        int[] same = {5, 0, 0, 0, 63};
        for (int i = 0; i < 5; i++) due("kernel(3, " + i + ")", x.kernel(3, i), same[i]);
        due("kernel(0, 0)", x.kernel(0, 0), NONE);
        due("kernel(6, 0)", x.kernel(6, 0), NONE);
        due("kernel(1, 5)", x.kernel(1, 5), NONE);
        due("kernel(1, -1)", x.kernel(1, -1), NONE);
        PetalSets y = of(6, "ab ac ad bc");
        int[] kept = {2, 1, 0, 1, 7};
        for (int i = 0; i < 5; i++) due("kernel(2, " + i + ") of four", y.kernel(2, i), kept[i]);
        y.drop(0);
        due("kernel(2, 0) behind an act", y.kernel(2, 0), 3);
        due("kernel(2, 4) behind an act", y.kernel(2, 4), 15);
        y.undo();
        due("kernel(2, 0) behind undo", y.kernel(2, 0), 2);
        y.change(0, 32);
        due("kernel(2, 4) behind another first set", y.kernel(2, 4), -2);
        due("kernel(2, 1) behind another first set", y.kernel(2, 1), 0);
        y.undo();
        int[] chained = {1, 3, 3, 0, 1};
        for (int i = 0; i < 5; i++) due("kernel(1, " + i + ") of a chain", chain().kernel(1, i), chained[i]);

        promise = 46;
        due("kernelSet(2, 0)", y.kernelSet(2, 0), 6);
        due("kernelSet(2, 1)", y.kernelSet(2, 1), 1);
        due("kernelSet(2, 2)", y.kernelSet(2, 2), NONE);
        due("kernelSet(2, -1)", y.kernelSet(2, -1), NONE);
        due("kernelSet(0, 0)", y.kernelSet(0, 0), NONE);
        due("kernelSet(6, 0)", y.kernelSet(6, 0), NONE);
        due("kernelSet(1, 0), lost", x.kernelSet(1, 0), -2);
        due("kernelSet(1, -1), lost", x.kernelSet(1, -1), NONE);

        promise = 47;
        int[][] steps = {{1, 3, 1, 4}, {0, 1, -2, 3}};
        for (int k = 0; k < 2; k++) for (int i = 0; i < 4; i++) due("step(1, " + k + ", " + i + ")", x.step(1, k, i), steps[k][i]);
        due("step(1, 2, 0)", x.step(1, 2, 0), NONE);
        due("step(1, -1, 0)", x.step(1, -1, 0), NONE);
        due("step(1, 0, 4)", x.step(1, 0, 4), NONE);
        due("step(1, 0, -1)", x.step(1, 0, -1), NONE);
        due("step(0, 0, 0)", x.step(0, 0, 0), NONE);
        due("step(6, 0, 0)", x.step(6, 0, 0), NONE);
        due("step(3, 0, 0)", x.step(3, 0, 0), NONE);
        due("a later set within an earlier one", of(6, "abc d b").step(5, 0, 1), 1);

        promise = 48;
        due("can(2)", x.can(2), 0);
        due("can(3)", x.can(3), 1);
        due("can(10)", x.can(10), 1);
        due("can(0)", x.can(0), 0);
        due("can(-1)", x.can(-1), NONE);
        due("can(11)", x.can(11), NONE);
        due("can(0) of none", new PetalSets().can(0), 1);
        due("can(9) of ten", of(10, "a b c d e f g h i j").can(9), 0);
    }

    private static void were() {
        PetalSets x = star();
        promise = 49;
        due("link(0, 0)", x.link(0, 0), 5);
        due("link(0, 1)", x.link(0, 1), 3);
        due("link(1, 0)", x.link(1, 0), 3);
        due("link(1, 1)", x.link(1, 1), 3);
        due("link(3, 0)", x.link(3, 0), 0);
        due("link(3, 1)", x.link(3, 1), -2);
        due("link(16, 0)", x.link(16, 0), 1);
        due("link(16, 1)", x.link(16, 1), -2);
        due("link(64, 0)", x.link(64, 0), NONE);
        due("link(-1, 0)", x.link(-1, 0), NONE);
        due("link(0, 2)", x.link(0, 2), NONE);
        due("link(0, -1)", x.link(0, -1), NONE);
        due("link(1, 0) of a chain", chain().link(1, 0), 3);
        due("link(1, 1) of a chain", chain().link(1, 1), 2);

        promise = 50;
        due("withSet(17)", x.withSet(17), 4);
        due("withSet(3)", x.withSet(3), 3);
        due("withSet(0)", x.withSet(0), NONE);
        due("withSet(64)", x.withSet(64), NONE);
        due("withSet(-1)", x.withSet(-1), NONE);
        PetalSets one = of(6, "a");
        due("withSet of the one that there is", one.withSet(1), -2);
        due("withSet of another", one.withSet(2), 2);
        due("withSet of the first", new PetalSets().withSet(1), -2);
        due("withSet of a 17th", of(10, "a b c d e f g h i ab ac ad ae af ag ah").withSet(512), 10);

        promise = 51;
        due("withoutSet(2)", x.withoutSet(2), 2);
        due("withoutSet(0)", x.withoutSet(0), 3);
        due("withoutSet(5)", x.withoutSet(5), NONE);
        due("withoutSet(-1)", x.withoutSet(-1), NONE);
        due("withoutSet of one", one.withoutSet(0), -2);
        due("withoutSet of two", of(6, "a b").withoutSet(0), -2);

        promise = 52;
        due("freeNext(3)", x.freeNext(3), -2);
        due("freeNext(4)", x.freeNext(4), 2);
        due("freeNext(2)", x.freeNext(2), -2);
        due("freeNext(1)", x.freeNext(1), NONE);
        due("freeNext(17)", x.freeNext(17), NONE);
        due("freeNext(2) of none", new PetalSets().freeNext(2), 1);
        due("freeNext(2) of one", one.freeNext(2), -2);
        due("freeNext(3) of one", one.freeNext(3), 2);
        due("freeNext(3), none is left", of(1, "a").freeNext(3), -2);
        due("freeNext(3), two points ahead of three", of(3, "a b").freeNext(3), 3);
        due("freeNext(3), all points", of(2, "a b").freeNext(3), 3);
        due("freeNext(16) of sixteen", sixteen().freeNext(16), 11);

        promise = 49;
        sets(x, 3, 5, 9, 6, 48);
        due("nothing happened", x.count(3), 0);
    }

    private static void texted() {
        promise = 53;
        spelled(new PetalSets(), "points 6;");
        spelled(star(), "points 6;set ab;set ac;set ad;set bc;set ef;");
        spelled(of(10, "jihgfedcba j ba"), "points 10;set abcdefghij;set j;set ab;");
        due("spell(-2)", star().spell(-2), NONE);
        due("spell(greatest)", star().spell(Integer.MAX_VALUE), -2);

        promise = 54;
        reported(star(), 1, "flower 0 1 core a;within 0;lost;");
        reported(star(), 2, "flower 0 1 2 core a;lost;");
        reported(star(), 3, "left 5;");
        reported(of(6, "ab ac ad bc"), 2, "flower 0 1 2 core a;left 2;");
        reported(chain(), 1, "within 1;within 1;within 1;left 1;");
        reported(new PetalSets(), 5, "left 0;");
        reported(of(10, "ab cd ef gh ij ac bd eg fh ai bj abcdefghi"), 5, "within 11;left 11;");
        reported(of(10, "abdg abc abe abf abh ij"), 4, "flower 0 1 2 3 4 core ab;left 2;");
        due("report(0, 0)", star().report(0, 0), NONE);
        due("report(6, 0)", star().report(6, 0), NONE);
        due("report(1, -2)", star().report(1, -2), NONE);
        due("report(1, greatest)", star().report(1, Integer.MAX_VALUE), -2);

        promise = 55;
        PetalSets x = of(8, "ab cdef b");
        x.add(64);
        x.feed(1, 2, 3, 4, 5);
        int[] counts = {8, 4, 127, 1, 20, 4, 1};
        for (int i = 0; i < 7; i++) due("count(" + i + ")", x.count(i), counts[i]);
        due("count(7)", x.count(7), NONE);
        due("count(-1)", x.count(-1), NONE);
        due("count(5), the first", of(6, "abc a").count(5), 3);
        due("count(6), the first", of(6, "a abc").count(6), 1);
        x.only(7, true);
        int[] empty = {8, 0, 0, 2, 20, -2, -2};
        for (int i = 0; i < 7; i++) due("count(" + i + ")", x.count(i), empty[i]);
    }

    public static void main(String[] args) {
        due("NONE", PetalSets.NONE, NONE);
        told();
        texts();
        addDropChange();
        moves();
        reduceThinUndo();
        asked();
        sunflowers();
        pairsAndParts();
        spreadAndBounds();
        hitters();
        kernels();
        were();
        texted();
        System.out.println(asked + " answers, " + wrong + " of them not as due");
        if (wrong != 0) System.exit(1);
    }
}
