/** Promise by promise: ordinary inputs, the edges that the document names, and wrong inputs; answers worked out by hand. */
public final class PromisesTest extends Asked {
    private static void newObject() {
        StormSlots x = new StormSlots();
        for (int w = 0; w <= 9; w++) due("count(" + w + ")", x.count(w), 0);
        due("count(10)", x.count(10), 240);
        due("count(11)", x.count(11), 0);
        due("count(12)", x.count(12), 0);
        for (int h = 0; h < 12; h++) due("count(20 + h)", x.count(20 + h), 12);
        due("told(0, 0)", x.told(0, 0), NONE);
        due("revise()", x.revise(), -2);
        due("plan()", x.plan(), -2);
    }

    private static void feeding() {
        StormSlots x = new StormSlots();
        for (int k = 1; k <= 16; k++) due("feed " + k, x.feed(1, 2, 3, 4, 5), 20 * k);
        due("feed 17", x.feed(1, 2, 3, 4, 5), NONE);
        due("count(8)", x.count(8), 320);
        StormSlots y = new StormSlots();
        // "a12/3;b45/6*7;c89/10"
        y.feed(0x6131322F, 0x333B6234, 0x352F362A, 0x373B6338, 0x392F3130);
        due("schedule(20)", y.schedule(20), 3);
        due("told(0, 1)", y.told(0, 1), 12);
        due("told(1, 3)", y.told(1, 3), 7);
        due("told(2, 2)", y.told(2, 2), 10);
    }

    private static void fault(String text, int want) {
        StormSlots x = six();
        x.link(0, 1, 5);
        x.offer(2, 180, 3, 160);
        feed(x, text);
        due("schedule of \"" + text + "\"", x.schedule(text.length()), want);
        due("count(8)", x.count(8), 0);
        due("count(0)", x.count(0), 6);
        due("count(2)", x.count(2), 1);
        due("count(7)", x.count(7), 1);
        due("count(11)", x.count(11), 1);
        due("letter(-1)", x.letter(-1), 53);
    }

    private static void readingFaults() {
        fault("   ", -1003);
        fault("f1/1", -1000);
        fault("A1/1", -1000);
        fault(";a1/1", -1000);
        fault("a", -1001);
        fault("a/1", -1001);
        fault("a*", -1001);
        fault("a1", -1002);
        fault("a1;", -1002);
        fault("a1 2/3", -1003);
        fault("a1/", -1003);
        fault("a1/ ;", -1004);
        fault("a1/2*", -1005);
        fault("a1/2**", -1005);
        fault("a1/2*x", -1005);
        fault("a1/2*12", -1006);
        fault("a1/2*1 2", -1007);
        fault("a1/2*1*2", -1006);
        fault("a1/2 3", -1005);
        fault("a1/2/3", -1004);
        fault("a1/2;", -1005);
        fault("a1/2;;b", -1005);
        fault("a1/2 ;  ", -1008);
        fault("a1/2b3/4", -1004);
        fault("a-1/2", -1001);
        fault("a1/2" + (char) 0, -1004);
        fault("a1/2" + (char) 225, -1004);
        fault("a720/1", -2001);
        fault("a 999x", -2002);
        fault("a999", -2001);
        fault("a1/301", -2003);
        fault("a1/ 999", -2004);
        fault("a1/2*0", -2005);
        fault("a1/2*01", -2005);
        fault("a1/2* 0x", -2006);
        fault("a1234/1", -1004);
        fault("a7200/1", -1004);
        fault("a0000/1", -1004);
        fault("a1/3010", -1006);
        fault("b1/2;a720/400", -2006);
        String twenty = "a0/0;".repeat(20);
        fault(twenty + "a0/0", -3100);
        fault(twenty + " e", -3101);
        fault(twenty + "f0/0", -1100);
        fault(twenty, -1100);
        fault(twenty + " ", -1101);
    }

    private static void reading() {
        StormSlots x = six();
        x.link(0, 1, 5);
        x.offer(2, 180, 3, 160);
        x.cancel(4);
        x.now(7);
        due("schedule", read(x, "  c 7 / 8 * 9 ;d719/300; e 000/ 000*1 "), 3);
        due("count(0)", x.count(0), 3);
        due("count(1)", x.count(1), 7);
        due("count(2)", x.count(2), 0);
        due("count(5)", x.count(5), 0);
        due("count(6)", x.count(6), 0);
        due("count(7)", x.count(7), 0);
        due("count(11)", x.count(11), 0);
        due("count(22)", x.count(22), 3);
        int[][] want = {{2, 7, 8, 9}, {3, 719, 300, 1}, {4, 0, 0, 1}};
        for (int f = 0; f < 3; f++)
            for (int w = 0; w < 4; w++) due("told(" + f + ", " + w + ")", x.told(f, w), want[f][w]);
        slots(x, -2, -2, -2);
        due("twenty flights", read(x, "a0/0;".repeat(19) + "e9/9"), 20);
        due("160 bytes", read(x, "b1/2" + " ".repeat(156)), 1);
        feed(x, "a1/1");
        due("schedule(0)", x.schedule(0), NONE);
        due("schedule(-1)", x.schedule(LEAST), NONE);
        due("schedule(21)", x.schedule(21), NONE);
        due("count(8)", x.count(8), 20);
        feed(x, " ".repeat(180));
        due("schedule(161)", x.schedule(161), NONE);
        due("count(8)", x.count(8), 200);
        due("schedule(4)", x.schedule(4), 1);
        due("count(8)", x.count(8), 0);
        due("told(0, 0)", x.told(0, 0), 0);
    }

    private static void addingFlights() {
        StormSlots x = six();
        due("flight", x.flight(4, 719, 300, 9), 6);
        due("told(6, 0)", x.told(6, 0), 4);
        due("told(6, 1)", x.told(6, 1), 719);
        due("told(6, 2)", x.told(6, 2), 300);
        due("told(6, 3)", x.told(6, 3), 9);
        due("told(6, 5)", x.told(6, 5), -2);
        due("count(2)", x.count(2), 1);
        slots(x, 120, 140, 160, 180, 200, 220);
        int[][] bad = {{-1, 0, 0, 1}, {5, 0, 0, 1}, {0, -1, 0, 1}, {0, 720, 0, 1}, {0, 0, -1, 1}, {0, 0, 301, 1}, {0, 0, 0, 0}, {0, 0, 0, 10}};
        for (int[] b : bad) due("a wrong flight", x.flight(b[0], b[1], b[2], b[3]), NONE);
        for (int f = 7; f < 20; f++) due("flight", x.flight(0, 0, 0, 1), f);
        due("a 21st", x.flight(0, 0, 0, 1), -2);
        due("a wrong 21st", x.flight(0, 0, 0, 0), NONE);
        due("count(0)", x.count(0), 20);
    }

    private static void drawing() {
        StormSlots x = six();
        x.link(0, 1, 5);
        x.offer(2, 180, 3, 160);
        due("draws(1, 0)", x.draws(1, 0), NONE);
        due("draws(1, 21)", x.draws(1, 21), NONE);
        due("count(0)", x.count(0), 6);
        due("draws(1, 3)", x.draws(1, 3), 16421);
        int[][] want = {{0, 151, 233, 2}, {0, 274, 50, 4}, {0, 189, 198, 2}};
        for (int f = 0; f < 3; f++)
            for (int w = 0; w < 4; w++) due("told(" + f + ", " + w + ")", x.told(f, w), want[f][w]);
        due("count(0)", x.count(0), 3);
        due("count(2)", x.count(2), 0);
        due("count(7)", x.count(7), 0);
        due("count(11)", x.count(11), 0);
        slots(x, -2, -2, -2);
        due("draws(-1, 2)", x.draws(-1, 2), 42775);
        due("told(1, 1)", x.told(1, 1), 334);
        due("draws(65537, 1)", x.draws(65537, 1), 45005);
        due("draws(1, 20)", x.draws(1, 20) >= 0, true);
        due("count(0)", x.count(0), 20);
    }

    private static void letters() {
        String text = "a0/0;b10/9*2;c99/100*9;d719/300;e100/10";
        StormSlots x = of("a 000/0*1 ;b010/09*2;c99/100*9;d719/300;e100/10");
        due("letter(-1)", x.letter(-1), text.length());
        for (int k = 0; k < text.length(); k++) due("letter(" + k + ")", x.letter(k), text.charAt(k));
        due("letter(end)", x.letter(text.length()), -2);
        due("letter(MOST)", x.letter(MOST), -2);
        due("letter(-2)", x.letter(-2), NONE);
        due("letter(LEAST)", x.letter(LEAST), NONE);
        StormSlots y = new StormSlots();
        due("letter(-1)", y.letter(-1), 0);
        due("letter(0)", y.letter(0), -2);
        for (int f = 0; f < 20; f++) y.flight(4, 719, 300, 9);
        due("letter(-1)", y.letter(-1), 219);
        due("letter(218)", y.letter(218), '9');
        for (int eta = 0; eta < 720; eta++) {
            StormSlots z = new StormSlots();
            z.flight(eta % 5, eta, eta % 301, 1 + eta % 9);
            String want = "abcde".charAt(eta % 5) + "" + eta + "/" + eta % 301 + (eta % 9 > 0 ? "*" + (1 + eta % 9) : "");
            StringBuilder told = new StringBuilder();
            for (int k = 0; k < z.letter(-1); k++) told.append((char) z.letter(k));
            due("all letters", told.toString(), want);
        }
    }

    private static void ratesOfHours() {
        StormSlots x = six();
        due("rate(0, 0)", x.rate(0, 0), 12);
        due("rate(0, 12)", x.rate(0, 12), 0);
        due("rate(11, 5)", x.rate(11, 5), 12);
        due("rate(2, 0)", x.rate(2, 0), 3);
        slots(x, 120, 140, 160, 180, 200, 220);
        int[][] bad = {{-1, 1}, {12, 1}, {0, -1}, {0, 13}};
        for (int[] b : bad) due("a wrong rate", x.rate(b[0], b[1]), NONE);
        due("count(20)", x.count(20), 12);
        due("count(31)", x.count(31), 5);
    }

    private static void storms() {
        StormSlots x = new StormSlots();
        due("storm(1, 1, 4, 12)", x.storm(1, 1, 4, 12), 45005);
        int[] want = {12, 5, 9, 5, 6, 12};
        for (int h = 0; h < 6; h++) due("count(20 + " + h + ")", x.count(20 + h), want[h]);
        due("storm(-1, 11, 11, 3)", x.storm(-1, 11, 11, 3), 54212);
        due("count(31)", x.count(31), 1);
        due("storm(65537, 0, 11, 0)", x.storm(65537, 0, 11, 0), 16421);
        due("count(10)", x.count(10), 96);
        int[][] bad = {{-1, 0, 1}, {0, 12, 1}, {3, 2, 1}, {0, 0, -1}, {0, 0, 13}, {12, 12, 1}};
        for (int[] b : bad) due("a wrong storm", x.storm(1, b[0], b[1], b[2]), NONE);
        due("count(10)", x.count(10), 96);
    }

    private static void clock() {
        StormSlots x = new StormSlots();
        due("now(0)", x.now(0), true);
        due("now(-1)", x.now(-1), false);
        due("now(5)", x.now(5), true);
        due("now(5)", x.now(5), true);
        due("now(4)", x.now(4), false);
        due("now(720)", x.now(720), false);
        due("count(1)", x.count(1), 5);
        due("now(719)", x.now(719), true);
    }

    private static void telling() {
        StormSlots x = six();
        int[] want = {0, 121, 30, 3, 121, 140, 19, 0, 0, 0, 57};
        for (int w = 0; w < want.length; w++) due("told(1, " + w + ")", x.told(1, w), want[w]);
        due("told(1, 11)", x.told(1, 11), NONE);
        due("told(1, -1)", x.told(1, -1), NONE);
        due("told(6, 0)", x.told(6, 0), NONE);
        due("told(-1, 0)", x.told(-1, 0), NONE);
        x.now(109);
        due("told(1, 4)", x.told(1, 4), 139);
        due("told(1, 8)", x.told(1, 8), 0);
        due("told(0, 8)", x.told(0, 8), 1);
        x.now(110);
        due("told(1, 8)", x.told(1, 8), 1);
        x.cancel(2);
        for (int w : new int[] {5, 6, 7, 10}) due("told(2, " + w + ")", x.told(2, w), -2);
        due("told(2, 8)", x.told(2, 8), 0);
        due("told(2, 9)", x.told(2, 9), 1);
        x.flight(0, 0, 300, 1);
        for (int w : new int[] {5, 6, 7, 10}) due("told(6, " + w + ")", x.told(6, w), -2);
        due("told(6, 8)", x.told(6, 8), 0);
        due("told(6, 9)", x.told(6, 9), 0);
        due("told(6, 4)", x.told(6, 4), 410);
        x.now(719);
        due("told(0, 8) when landed", x.told(0, 8), 1);
    }

    private static void slotsByMinutes() {
        StormSlots x = new StormSlots();
        x.rate(0, 7);
        x.rate(1, 0);
        int[] want = {0, 8, 17, 25, 34, 42, 51, 120, 125};
        for (int k = 0; k < want.length; k++) due("slot(" + k + ")", x.slot(k), want[k]);
        due("count(10)", x.count(10), 223);
        due("slot(126)", x.slot(126), 715);
        due("slot(127)", x.slot(127), 720);
        due("slot(222)", x.slot(222), 1195);
        due("slot(223)", x.slot(223), -2);
        due("slot(MOST)", x.slot(MOST), -2);
        due("slot(-1)", x.slot(-1), NONE);
        due("slot(LEAST)", x.slot(LEAST), NONE);
    }

    private static void atMinutes() {
        StormSlots x = six();
        x.cancel(2);
        int[][] want = {{120, 0}, {140, 1}, {160, -3}, {121, -4}, {125, -4}, {0, -2}, {240, -2}, {245, -2},
            {720, -2}, {721, -4}, {1195, -2}, {1199, -4}, {1200, NONE}, {-1, NONE}, {MOST, NONE}, {LEAST, NONE}};
        for (int[] w : want) due("at(" + w[0] + ")", x.at(w[0]), w[1]);
        x.rate(2, 0);
        due("at(140), no such slot now", x.at(140), 1);
        due("at(160), no such slot now", x.at(160), -3);
        x.rate(2, 12);
        due("at(125)", x.at(125), -2);
        x.flight(0, 125, 0, 1);
        due("at(125)", x.at(125), -2);
    }

    private static void planning() {
        due("without flights", new StormSlots().plan(), -2);
        StormSlots x = six();
        slots(x, 120, 140, 160, 180, 200, 220);
        due("plan()", x.plan(), 5);
        due("count(3)", x.count(3), 285);
        due("count(4)", x.count(4), 0);
        x.cancel(2);
        x.offer(4, 220, 5, 200);
        due("plan()", x.plan(), 5);
        due("count(5)", x.count(5), 0);
        due("count(6)", x.count(6), 0);
        due("count(7)", x.count(7), 0);
        due("count(2)", x.count(2), 1);
        slots(x, 120, 140, 160, 180, 200, 220);
        x.now(100);
        due("plan()", x.plan(), 5);
        due("count(3)", x.count(3), 0);
        due("count(4)", x.count(4), 285);
        StormSlots y = of("a130/0;b131/100");
        y.rate(2, 1);
        y.now(30);
        due("plan()", y.plan(), 2);
        slots(y, 180, 185);
        due("told(1, 6)", y.told(1, 6), 54);
        y.now(31);
        due("plan()", y.plan(), 2);
        slots(y, 185, 180);
        due("told(0, 6)", y.told(0, 6), 55);
        due("told(1, 6)", y.told(1, 6), 0);
        due("told(1, 7)", y.told(1, 7), 49);
        StormSlots z = of("b719/0;a718/0;a719/0");
        z.storm(1, 0, 11, 0);
        due("plan()", z.plan(), 3);
        slots(z, 725, 720, 730);
        int[][] waiting = {{124, 1, 1}, {125, 1, 0}, {126, 1, 1}, {124, 124, 1}, {125, 125, 0}};
        for (int[] w : waiting) due("held or circling a minute is waiting", of("a" + w[0] + "/" + w[1]).plan(), w[2]);
        StormSlots early = of("a60/10;b60/10");
        early.now(300);
        due("plan()", early.plan(), 1);
        slots(early, 60, 65);
    }

    private static void revising() {
        due("nothing is planned", of("a1/1").revise(), -2);
        StormSlots x = three();
        due("revise()", x.revise(), 0);
        x.now(66);
        x.rate(2, 2);
        due("revise()", x.revise(), 2);
        slots(x, 120, 150, 180);
        due("told(1, 6)", x.told(1, 6), 5);
        due("told(1, 7)", x.told(1, 7), 25);
        due("told(1, 10)", x.told(1, 10), 80);
        due("told(2, 6)", x.told(2, 6), 60);
        due("told(2, 7)", x.told(2, 7), 0);
        x.now(121);
        x.rate(2, 0);
        due("revise()", x.revise(), 2);
        slots(x, 120, 180, 185);
        due("told(2, 7)", x.told(2, 7), 5);
        due("count(4)", x.count(4), 60);
        x.now(150);
        x.rate(2, 12);
        due("behind NOW", x.revise(), 2);
        slots(x, 120, 155, 180);
        x.flight(3, 0, 100, 1);
        due("one without a slot ahead", x.revise(), 1);
        due("told(3, 5)", x.told(3, 5), 250);
        due("told(3, 6)", x.told(3, 6), 250);
        StormSlots y = six();
        y.cancel(4);
        y.offer(0, 220, 1, 200);
        due("revise()", y.revise(), 1);
        slots(y, 120, 140, 160, 180, -2, 200);
        due("told(4, 9)", y.told(4, 9), 1);
        due("count(6)", y.count(6), 0);
        due("count(7)", y.count(7), 0);
        StormSlots z = of("a120/60;b120/0");
        z.plan();
        z.now(120);
        due("who has landed keeps its slot", z.revise(), 0);
        slots(z, 120, 125);
        StormSlots order = of("a100/90;b121/121;c120/120");
        order.rate(1, 0);
        order.plan();
        slots(order, 130, 125, 120);
        order.now(40);
        order.rate(2, 5);
        due("by ETA and HOLD together", order.revise(), 2);
        slots(order, 144, 132, 120);
    }

    private static void cancelling() {
        StormSlots x = six();
        due("cancel(2)", x.cancel(2), 160);
        due("cancel(2)", x.cancel(2), -2);
        due("cancel(6)", x.cancel(6), NONE);
        due("cancel(-1)", x.cancel(-1), NONE);
        x.flight(0, 0, 0, 1);
        due("cancel(6)", x.cancel(6), -2);
        due("count(5)", x.count(5), 1);
        due("count(6)", x.count(6), 1);
        due("vacant(0, 0)", x.vacant(0, 0), 160);
        due("vacant(0, 1)", x.vacant(0, 1), 1);
        x.now(89);
        due("cancel(0)", x.cancel(0), 120);
        x.now(110);
        due("cancel(1)", x.cancel(1), -3);
        due("told(1, 9)", x.told(1, 9), 0);
        due("cancel(0)", x.cancel(0), -2);
    }

    private static void exchanging() {
        StormSlots x = six();
        due("ahead of its earliest", x.exchange(0, 1), CANNOT);
        due("of unlike lines", x.exchange(1, 2), CANNOT);
        due("one flight", x.exchange(2, 2), CANNOT);
        due("no such one", x.exchange(-1, 2), CANNOT);
        due("no such one", x.exchange(2, 6), CANNOT);
        due("exchange(2, 3)", x.exchange(2, 3), -20);
        slots(x, 120, 140, 180, 160, 200, 220);
        due("exchange(5, 4)", x.exchange(5, 4), 60);
        slots(x, 120, 140, 180, 160, 220, 200);
        due("told(5, 6)", x.told(5, 6), 75);
        due("line(2, 3)", x.line(2, 3), 396);
        x.now(131);
        due("in the air", x.exchange(2, 3), CANNOT);
        x.cancel(4);
        due("cancelled", x.exchange(4, 5), CANNOT);
        x.flight(2, 0, 0, 1);
        due("not planned", x.exchange(5, 6), CANNOT);
        StormSlots y = slow("a120/30;a140/30");
        due("before its ETA", y.exchange(0, 1), CANNOT);
        StormSlots z = slow("a120/20;a120/60");
        z.now(61);
        due("by NOW and TIME", z.exchange(0, 1), CANNOT);
        due("exchange on the edge", slow("a120/30;a120/30").exchange(1, 0), 0);
    }

    private static void moving() {
        StormSlots x = six();
        due("not vacant", x.move(3, 160), -2);
        x.cancel(2);
        due("move(3, 160)", x.move(3, 160), 180);
        due("told(3, 6)", x.told(3, 6), 37);
        due("vacant(0, 0)", x.vacant(0, 0), 180);
        due("vacant(0, 1)", x.vacant(0, 1), 1);
        due("back again", x.move(3, 180), 160);
        due("of another line", x.move(4, 160), -2);
        due("a free slot", x.move(3, 240), -2);
        due("cancelled", x.move(2, 160), -2);
        due("no such flight", x.move(6, 160), NONE);
        due("no such flight", x.move(-1, 160), NONE);
        due("no such minute", x.move(3, 1200), NONE);
        due("no such minute", x.move(3, -1), NONE);
        x.flight(1, 0, 0, 1);
        due("not planned", x.move(6, 160), -2);
        x.now(131);
        due("its earliest is behind", x.move(3, 160), -2);
        x.now(150);
        due("in the air", x.move(3, 160), -2);
        StormSlots y = six();
        y.cancel(2);
        y.now(130);
        due("at its earliest", y.move(3, 160), 180);
    }

    private static void filling() {
        StormSlots x = six();
        due("nothing is vacant", x.fill(), 0);
        x.cancel(2);
        due("fill()", x.fill(), 3);
        slots(x, 120, 140, -2, 160, 180, 200);
        due("vacant(0, 0)", x.vacant(0, 0), 220);
        due("vacant(0, 1)", x.vacant(0, 1), 1);
        due("fill()", x.fill(), 0);
        StormSlots y = slow("a120/30;b120/30;a120/30;b120/30");
        y.cancel(0);
        due("its own line's first", y.fill(), 2);
        slots(y, -2, 140, 120, 160);
        due("vacant(0, 0)", y.vacant(0, 0), 180);
        due("vacant(0, 1)", y.vacant(0, 1), 0);
        StormSlots z = slow("a120/30;b140/30;c160/30");
        z.cancel(0);
        due("nobody can be so early", z.fill(), 0);
        StormSlots last = slow("a120/30;b119/30");
        slots(last, 140, 120);
        last.cancel(1);
        due("by flight 0", last.fill(), 1);
        slots(last, 120, -2);
        StormSlots air = slow("a120/30;a120/90;b120/30");
        slots(air, 120, 140, 160);
        air.now(50);
        air.cancel(0);
        due("who is in the air stays", air.fill(), 1);
        slots(air, -2, 140, 120);
    }

    private static void vacantSlots() {
        StormSlots x = six();
        due("vacant(0, 0)", x.vacant(0, 0), -2);
        x.cancel(4);
        x.cancel(1);
        due("vacant(0, 0)", x.vacant(0, 0), 140);
        due("vacant(0, 1)", x.vacant(0, 1), 0);
        due("vacant(1, 0)", x.vacant(1, 0), 200);
        due("vacant(1, 1)", x.vacant(1, 1), 2);
        due("vacant(2, 0)", x.vacant(2, 0), -2);
        due("vacant(MOST, 1)", x.vacant(MOST, 1), -2);
        due("vacant(-1, 0)", x.vacant(-1, 0), NONE);
        due("vacant(0, 2)", x.vacant(0, 2), NONE);
        due("vacant(9, -1)", x.vacant(9, -1), NONE);
    }

    private static void offering() {
        StormSlots x = six();
        due("offer", x.offer(0, 0, 1, 1199), 0);
        due("offer", x.offer(5, 1199, 4, 0), 1);
        due("of unlike lines", x.offer(0, 0, 2, 0), -2);
        due("no such flight", x.offer(0, 0, 6, 0), NONE);
        due("no such flight", x.offer(-1, 0, 1, 0), NONE);
        due("one flight", x.offer(1, 0, 1, 0), NONE);
        due("no such minute", x.offer(0, -1, 1, 0), NONE);
        due("no such minute", x.offer(0, 1200, 1, 0), NONE);
        due("no such minute", x.offer(0, 0, 1, -1), NONE);
        due("no such minute", x.offer(0, 0, 1, 1200), NONE);
        x.flight(0, 0, 0, 1);
        due("not planned", x.offer(0, 0, 6, 0), -2);
        x.cancel(2);
        due("cancelled", x.offer(3, 0, 2, 0), -2);
        for (int i = 2; i < 8; i++) due("offer", x.offer(4, i, 5, i), i);
        due("a ninth", x.offer(4, 0, 5, 0), -3);
        due("a ninth that is not so", x.offer(0, 0, 2, 0), -2);
        due("a wrong ninth", x.offer(0, 0, 2, 1200), NONE);
        x.now(90);
        due("in the air", x.offer(0, 0, 1, 0), -2);
        due("in the air", x.offer(1, 0, 0, 0), -2);
        due("count(7)", x.count(7), 8);
        due("not planned at all", of("a1/0;a2/0").offer(0, 0, 1, 0), -2);
    }

    private static void withdrawing() {
        StormSlots x = six();
        for (int i = 0; i < 4; i++) x.offer(0, i, 1, i);
        due("withdraw(1)", x.withdraw(1), true);
        due("withdraw(1)", x.withdraw(1), false);
        due("withdraw(2)", x.withdraw(2), true);
        due("count(7)", x.count(7), 2);
        due("the lowest free number", x.offer(4, 9, 5, 9), 1);
        due("offered(3, 1) keeps its number", x.offered(3, 1), 3);
        due("withdraw(-1)", x.withdraw(-1), false);
        due("withdraw(8)", x.withdraw(8), false);
        due("withdraw(MOST)", x.withdraw(MOST), false);
    }

    private static void offersTold() {
        StormSlots x = six();
        x.offer(4, 300, 5, 150);
        int[] want = {4, 300, 5, 150};
        for (int w = 0; w < 4; w++) due("offered(0, " + w + ")", x.offered(0, w), want[w]);
        due("offered(0, 4)", x.offered(0, 4), NONE);
        due("offered(0, -1)", x.offered(0, -1), NONE);
        due("offered(1, 0)", x.offered(1, 0), NONE);
        due("offered(-1, 0)", x.offered(-1, 0), NONE);
        due("offered(8, 0)", x.offered(8, 0), NONE);
        x.cancel(4);
        due("offered(0, 0) of one cancelled", x.offered(0, 0), 4);
    }

    private static int dealOf(StormSlots x, int downTo, int upTo, int otherDownTo, int otherUpTo) {
        x.offer(0, downTo, 2, upTo);
        x.offer(1, otherDownTo, 3, otherUpTo);
        return x.deal(0, 1);
    }

    private static void dealing() {
        StormSlots x = market();
        due("deal(0, 1)", dealOf(x, 180, 140, 160, 120), 560);
        slots(x, 180, 160, 140, 120);
        due("told(0, 6)", x.told(0, 6), 60);
        due("count(7)", x.count(7), 0);
        due("deal(0, 1)", x.deal(0, 1), CANNOT);
        due("too far down", dealOf(market(), 179, 140, 160, 120), CANNOT);
        due("not far up", dealOf(market(), 180, 139, 160, 120), CANNOT);
        due("too far down", dealOf(market(), 180, 140, 159, 120), CANNOT);
        due("not far up", dealOf(market(), 180, 140, 160, 119), CANNOT);
        StormSlots kept = market();
        dealOf(kept, 179, 140, 160, 120);
        due("refused: offers stay", kept.count(7), 2);
        slots(kept, 120, 140, 160, 180);
        due("at a loss", dealOf(slow("a120/30*9;b120/30*9;a120/30;b120/30"), 999, 999, 999, 999), -640);
        due("ahead of its earliest", dealOf(slow("a120/30;b120/30;a120/30*5;b121/30*9"), 999, 999, 999, 999), CANNOT);
        StormSlots y = market();
        y.offer(0, 999, 2, 999);
        y.offer(1, 999, 3, 999);
        y.offer(0, 999, 2, 999);
        due("with itself", y.deal(0, 0), CANNOT);
        due("of one line", y.deal(0, 2), CANNOT);
        due("no such offer", y.deal(0, 3), CANNOT);
        due("no such offer", y.deal(-1, 0), CANNOT);
        due("no such offer", y.deal(1, 8), CANNOT);
        y.cancel(3);
        due("one is cancelled", y.deal(0, 1), CANNOT);
        StormSlots air = market();
        air.offer(0, 999, 2, 999);
        air.offer(1, 999, 3, 999);
        air.now(90);
        due("one is in the air", air.deal(0, 1), CANNOT);
        StormSlots turned = market();
        turned.offer(2, 999, 0, 999);
        turned.offer(3, 999, 1, 999);
        due("the wrong way", turned.deal(0, 1), CANNOT);
    }

    private static void bestDeals() {
        StormSlots x = market();
        due("none", x.bestDeal(2), CANNOT);
        x.offer(0, 999, 2, 999);
        x.offer(1, 159, 3, 999);
        x.offer(1, 160, 3, 999);
        x.offer(1, 161, 3, 999);
        due("bestDeal(0)", x.bestDeal(0), 0);
        due("bestDeal(1)", x.bestDeal(1), 2);
        due("bestDeal(2)", x.bestDeal(2), 560);
        due("bestDeal(3)", x.bestDeal(3), CANNOT);
        due("bestDeal(-1)", x.bestDeal(-1), CANNOT);
        due("count(7)", x.count(7), 4);
        slots(x, 120, 140, 160, 180);
        StormSlots y = ring();
        y.offer(0, 999, 3, 999);
        y.offer(1, 999, 4, 999);
        y.offer(2, 999, 5, 999);
        // 0 and 1: (2 - 1) 40 and (3 - 1) 80; 0 and 2: 20 and 300; 1 and 2: (3 - 1) 40 and (4 - 1) 80
        due("bestDeal(0)", y.bestDeal(0), 0);
        due("bestDeal(1)", y.bestDeal(1), 2);
        due("bestDeal(2)", y.bestDeal(2), 320);
        y.cancel(0);
        due("bestDeal(0)", y.bestDeal(0), 1);
        due("bestDeal(1)", y.bestDeal(1), 2);
        due("bestDeal(2)", y.bestDeal(2), 320);
        StormSlots loss = slow("a120/30*9;b120/30*9;a120/30;b120/30");
        loss.offer(0, 999, 2, 999);
        loss.offer(1, 999, 3, 999);
        due("at a loss", loss.bestDeal(2), -640);
    }

    private static void linesTold() {
        StormSlots x = six();
        int[] want = {2, 0, 95, 133, 57, 0, 0};
        for (int w = 0; w < 7; w++) due("line(1, " + w + ")", x.line(1, w), want[w]);
        x.cancel(2);
        int[] then = {2, 1, 57, 57, 57, 1, 0};
        for (int w = 0; w < 7; w++) due("line(1, " + w + ")", x.line(1, w), then[w]);
        x.now(150);
        due("line(1, 6)", x.line(1, 6), 1);
        due("line(0, 6)", x.line(0, 6), 2);
        due("line(2, 6)", x.line(2, 6), 0);
        x.rate(2, 0);
        x.rate(3, 0);
        x.revise();
        // flight 3 circles from 180 to 240
        due("line(1, 2)", x.line(1, 2), 117);
        due("line(1, 3)", x.line(1, 3), 237);
        due("line(1, 4)", x.line(1, 4), 117);
        StormSlots y = six();
        y.cancel(0);
        due("line(0, 1)", y.line(0, 1), 1);
        due("line(4, 0)", x.line(4, 0), 0);
        due("line(-1, 0)", x.line(-1, 0), NONE);
        due("line(5, 0)", x.line(5, 0), NONE);
        due("line(0, -1)", x.line(0, -1), NONE);
        due("line(0, 7)", x.line(0, 7), NONE);
    }

    private static void bestOrders() {
        StormSlots x = six();
        due("bestOrder(2, -1)", x.bestOrder(2, -1), 396);
        due("bestOrder(2, 4)", x.bestOrder(2, 4), 220);
        due("bestOrder(2, 5)", x.bestOrder(2, 5), 200);
        due("bestOrder(1, -1)", x.bestOrder(1, -1), 133);
        due("of another line", x.bestOrder(2, 0), -2);
        due("bestOrder(5, -1)", x.bestOrder(5, -1), NONE);
        due("bestOrder(-1, -1)", x.bestOrder(-1, -1), NONE);
        due("bestOrder(0, 6)", x.bestOrder(0, 6), NONE);
        due("bestOrder(0, -2)", x.bestOrder(0, -2), NONE);
        due("bestOrder(3, -1)", x.bestOrder(3, -1), 0);
        slots(x, 120, 140, 160, 180, 200, 220);
        x.cancel(4);
        due("cancelled", x.bestOrder(2, 4), -2);
        due("bestOrder(2, -1)", x.bestOrder(2, -1), 380);
        x.now(190);
        due("in the air, it stays", x.bestOrder(2, 5), 220);
        due("bestOrder(2, -1)", x.bestOrder(2, -1), 380);
        StormSlots y = of("a120/10;a120/10;a120/10;a120/10;a120/10;a120/10;a120/10*9");
        y.plan();
        due("the seventh stays", y.bestOrder(0, 6), 150);
        due("bestOrder(0, -1)", y.bestOrder(0, -1), 345);
        StormSlots z = slow("a120/10;a120/10");
        z.exchange(0, 1);
        due("of like ones the least row", z.bestOrder(0, 0), 120);
        due("of like ones the least row", z.bestOrder(0, 1), 140);
    }

    private static void ordering() {
        StormSlots x = six();
        due("order(2)", x.order(2), 60);
        slots(x, 120, 140, 160, 180, 220, 200);
        due("told(4, 6)", x.told(4, 6), 96);
        due("order(2)", x.order(2), 0);
        due("order(3)", x.order(3), 0);
        due("order(5)", x.order(5), NONE);
        due("order(-1)", x.order(-1), NONE);
        StormSlots z = slow("a120/10;a120/10");
        z.exchange(0, 1);
        slots(z, 140, 120);
        due("no cheaper, but the least row", z.order(0), 0);
        slots(z, 120, 140);
        StormSlots y = slow("a120/30;a120/30*2;a120/30*3;a120/30*4;a120/30*5;a120/30*6");
        due("order(0)", y.order(0), 20 * (2 + 2 * 3 + 3 * 4 + 4 * 5 + 5 * 6) - 20 * (5 + 4 * 2 + 3 * 3 + 2 * 4 + 5));
        slots(y, 220, 200, 180, 160, 140, 120);
    }

    private static void bestCancels() {
        StormSlots x = six();
        due("bestCancel(2, 0)", x.bestCancel(2, 0), 5);
        due("bestCancel(2, 1)", x.bestCancel(2, 1), 76);
        due("bestCancel(0, 0)", x.bestCancel(0, 0), 1);
        due("bestCancel(0, 1)", x.bestCancel(0, 1), 0);
        due("count(5)", x.count(5), 0);
        slots(x, 120, 140, 160, 180, 200, 220);
        due("none can be", x.bestCancel(3, 0), -2);
        due("bestCancel(5, 0)", x.bestCancel(5, 0), NONE);
        due("bestCancel(-1, 0)", x.bestCancel(-1, 0), NONE);
        due("bestCancel(0, 2)", x.bestCancel(0, 2), NONE);
        due("bestCancel(3, -1)", x.bestCancel(3, -1), NONE);
        x.now(110);
        due("all are in the air", x.bestCancel(0, 0), -2);
        StormSlots y = slow("a120/10;a120/10");
        due("of like ones the lowest", y.bestCancel(0, 0), 0);
        StormSlots z = slow("a120/30;a120/30*2;b120/30;a120/30*9");
        // without 0: 1 at 120, 3 at 140; without 1: 3 at 140; without 3: 1 at 140
        due("bestCancel(0, 0)", z.bestCancel(0, 0), 3);
        due("bestCancel(0, 1)", z.bestCancel(0, 1), 40);
        StormSlots all = slow("a120/30;b120/30;b120/30");
        all.cancel(0);
        // 120 was VACANT already, and is FILLED as well: without 1 by 2, without 2 by 1
        due("all are FILLED", all.bestCancel(1, 0), 1);
        due("all are FILLED", all.bestCancel(1, 1), 0);
    }

    private static void helping() {
        StormSlots x = six();
        // 3 goes up to 160, 4 to 180, 5 to 200; the 38 that 2 itself waits are no help to its line
        due("its own line, without it", x.helps(2, 1), 20);
        due("helps(2, 2)", x.helps(2, 2), 40);
        due("the last of all helps none", x.helps(5, 2), 0);
        due("helps(2, 0)", x.helps(2, 0), 0);
        due("helps(2, 4)", x.helps(2, 4), 0);
        due("count(5)", x.count(5), 0);
        slots(x, 120, 140, 160, 180, 200, 220);
        due("helps(6, 0)", x.helps(6, 0), CANNOT);
        due("helps(-1, 0)", x.helps(-1, 0), CANNOT);
        due("helps(2, 5)", x.helps(2, 5), CANNOT);
        due("helps(2, -1)", x.helps(2, -1), CANNOT);
        x.cancel(2);
        due("cancelled", x.helps(2, 0), CANNOT);
        x.now(90);
        due("in the air", x.helps(0, 0), CANNOT);
        x.flight(0, 0, 0, 1);
        due("not planned", x.helps(6, 0), CANNOT);
        StormSlots y = of("a120/60;a125/60*2;b126/6");
        y.plan();
        due("the only one of its line", y.helps(2, 1), 0);
        due("held up by none", y.helps(2, 0), 0);
        StormSlots z = of("a100/90;a180/30;b180/30");
        z.rate(1, 0);
        z.rate(2, 0);
        z.rate(3, 1);
        z.now(15);
        z.plan();
        // 0 circles 80 minutes to 180; 1 waits 60 to 240, 2 waits 65 to 245
        due("line(0, 2)", z.line(0, 2), 140);
        due("one of its line circles still", z.helps(1, 0), 0);
        due("helps(1, 1)", z.helps(1, 1), 5);
        StormSlots all = slow("a120/30;b120/30;b120/30");
        all.cancel(0);
        due("all are FILLED", all.helps(1, 1), 40);
    }

    private static void ranks() {
        StormSlots x = six();
        due("rank(0)", x.rank(0), 2);
        due("rank(1)", x.rank(1), 1);
        due("rank(2)", x.rank(2), 0);
        due("rank(3)", x.rank(3), -2);
        due("rank(MOST)", x.rank(MOST), -2);
        due("rank(-1)", x.rank(-1), NONE);
        x.cancelAll(2);
        due("rank(0)", x.rank(0), 1);
        due("rank(2)", x.rank(2), -2);
        // line a waits 10, line b 31 for three
        StormSlots y = of("a110/10;b115/10;b120/10;b124/10");
        y.rate(1, 0);
        y.plan();
        due("not cut", y.rank(0), 1);
        due("not cut", y.rank(1), 0);
        StormSlots first = of("b60/10;a60/10");
        first.plan();
        due("line 0 waits most", first.rank(0), 0);
        due("line 0 waits most", first.rank(1), 1);
        StormSlots like = of("b60/10;a120/10");
        like.plan();
        due("of like ones by numbers", like.rank(0), 0);
        due("of like ones by numbers", like.rank(1), 1);
        StormSlots z = of("c120/10;b60/10;d240/10");
        due("nothing is planned", z.rank(0), -2);
        z.plan();
        due("of like ones by numbers", z.rank(0), 1);
        due("of like ones by numbers", z.rank(1), 2);
        due("of like ones by numbers", z.rank(2), 3);
    }

    private static void unfairness() {
        StormSlots x = six();
        due("unfair()", x.unfair(), 7600);
        x.cancelAll(2);
        due("unfair()", x.unfair(), 3800);
        x.cancelAll(1);
        due("one line", x.unfair(), 0);
        x.cancelAll(0);
        due("none", x.unfair(), -2);
        StormSlots y = of("a110/10;b115/10;b120/10;b124/10");
        due("nothing is planned", y.unfair(), -2);
        y.rate(1, 0);
        y.plan();
        due("cut", y.unfair(), 33);
    }

    private static void linking() {
        StormSlots x = six();
        due("link", x.link(0, 5, 70), 0);
        due("link", x.link(0, 5, 300), 1);
        due("one flight", x.link(0, 0, 0), NONE);
        due("no such flight", x.link(0, 6, 0), NONE);
        due("no such flight", x.link(-1, 0, 0), NONE);
        due("no such gap", x.link(0, 1, -1), NONE);
        due("no such gap", x.link(0, 1, 301), NONE);
        for (int i = 2; i < 12; i++) due("link", x.link(1, 2, 0), i);
        due("a 13th", x.link(1, 2, 0), -2);
        due("a wrong 13th", x.link(1, 1, 0), NONE);
        due("count(11)", x.count(11), 12);
        x.plan();
        due("a plan leaves them", x.count(11), 12);
        due("not planned, too", of("a1/1;b1/1").link(1, 0, 0), 0);
    }

    private static void linksTold() {
        StormSlots x = six();
        x.link(0, 5, 70);
        x.link(0, 5, 71);
        int[][] want = {{0, 5, 70, 0, 0}, {0, 5, 71, 1, 1}};
        for (int i = 0; i < 2; i++)
            for (int w = 0; w < 5; w++) due("linked(" + i + ", " + w + ")", x.linked(i, w), want[i][w]);
        due("count(12)", x.count(12), 1);
        due("linked(2, 0)", x.linked(2, 0), NONE);
        due("linked(-1, 0)", x.linked(-1, 0), NONE);
        due("linked(0, 5)", x.linked(0, 5), NONE);
        due("linked(0, -1)", x.linked(0, -1), NONE);
        x.cancel(5);
        due("cancelled", x.linked(0, 3), 1);
        due("cancelled", x.linked(0, 4), -2);
        due("count(12)", x.count(12), 2);
        x.flight(0, 0, 0, 1);
        x.link(6, 1, 0);
        due("not planned", x.linked(2, 3), 1);
        due("not planned", x.linked(2, 4), -2);
        x.link(4, 0, 10);
        due("linked(3, 4)", x.linked(3, 4), 120);
    }

    private static void breaking() {
        StormSlots x = six();
        x.link(0, 5, 70);
        x.link(0, 5, 71);
        due("breaks(5, 219)", x.breaks(5, 219), 1);
        due("breaks(5, 220)", x.breaks(5, 220), 0);
        due("breaks(5, 221)", x.breaks(5, 221), -1);
        due("breaks(5, 1199)", x.breaks(5, 1199), -1);
        due("breaks(5, 125)", x.breaks(5, 125), 1);
        due("ahead of its earliest", x.breaks(5, 124), CANNOT);
        due("breaks(0, 121)", x.breaks(0, 121), 1);
        due("breaks(0, 120)", x.breaks(0, 120), 0);
        due("another has it", x.breaks(0, 140), 1);
        due("no such minute", x.breaks(5, 1200), CANNOT);
        due("no such minute", x.breaks(5, -1), CANNOT);
        due("no such flight", x.breaks(6, 300), CANNOT);
        due("no such flight", x.breaks(-1, 300), CANNOT);
        slots(x, 120, 140, 160, 180, 200, 220);
        x.now(90);
        due("in the air", x.breaks(0, 300), CANNOT);
        x.now(100);
        due("by NOW and TIME", x.breaks(5, 129), CANNOT);
        due("by NOW and TIME", x.breaks(5, 130), 1);
        x.cancel(5);
        due("cancelled", x.breaks(5, 300), CANNOT);
        x.flight(0, 0, 0, 1);
        due("not planned", x.breaks(6, 300), CANNOT);
    }

    private static StormSlots ringOffers(int... limits) {
        StormSlots x = ring();
        for (int i = 0; i < 3; i++) x.offer(i, limits[2 * i], i + 3, limits[2 * i + 1]);
        return x;
    }

    private static void rounds() {
        int[] limits = {220, 140, 180, 160, 200, 120};
        StormSlots x = ringOffers(limits);
        due("the other way", x.round(0, 2, 1), CANNOT);
        due("round(0, 1, 2)", x.round(0, 1, 2), 420);
        slots(x, 220, 180, 200, 140, 160, 120);
        due("count(7)", x.count(7), 0);
        due("round(0, 1, 2)", x.round(0, 1, 2), CANNOT);
        due("begun elsewhere", ringOffers(limits).round(2, 0, 1), 420);
        for (int k = 0; k < 6; k++) {
            int[] less = limits.clone();
            less[k]--;
            StormSlots y = ringOffers(less);
            due("limit " + k + " a minute less", y.round(0, 1, 2), CANNOT);
            due("count(7)", y.count(7), 3);
        }
        StormSlots z = ringOffers(limits);
        due("one twice", z.round(0, 1, 0), CANNOT);
        due("one twice", z.round(1, 1, 2), CANNOT);
        due("no such offer", z.round(0, 1, 3), CANNOT);
        due("no such offer", z.round(-1, 1, 2), CANNOT);
        due("no such offer", z.round(0, 8, 2), CANNOT);
        z.cancel(5);
        due("one is cancelled", z.round(0, 1, 2), CANNOT);
        StormSlots air = ringOffers(limits);
        air.now(90);
        due("one is in the air", air.round(0, 1, 2), CANNOT);
        StormSlots two = slow("a120/30;b120/30;a120/30;a120/30*2;b120/30*3;a120/30*4");
        for (int i = 0; i < 3; i++) two.offer(i, 999, i + 3, 999);
        due("two of one line", two.round(0, 1, 2), CANNOT);
    }

    private static void cancellingAll() {
        StormSlots x = six();
        due("cancelAll(1)", x.cancelAll(1), 12);
        due("cancelAll(1)", x.cancelAll(1), 0);
        due("vacant(0, 0)", x.vacant(0, 0), 160);
        due("vacant(1, 0)", x.vacant(1, 0), 180);
        due("line(1, 5)", x.line(1, 5), 2);
        due("cancelAll(3)", x.cancelAll(3), 0);
        due("cancelAll(5)", x.cancelAll(5), NONE);
        due("cancelAll(-1)", x.cancelAll(-1), NONE);
        StormSlots y = six();
        y.now(130);
        y.flight(1, 0, 0, 1);
        due("not who is in the air or not planned", y.cancelAll(1), 8);
    }

    private static void rules() {
        StormSlots x = six();
        int[][] want = {{646, 285, 95, 7600}, {466, 285, 96, 4800}, {706, 285, 95, 3600}};
        for (int r = 0; r < 3; r++)
            for (int w = 0; w < 4; w++) due("byRule(" + r + ", " + w + ")", x.byRule(r, w), want[r][w]);
        slots(x, 120, 140, 160, 180, 200, 220);
        x.cancel(2);
        due("cancelled ones are planned anew", x.byRule(0, 0), 646);
        due("count(5)", x.count(5), 1);
        due("byRule(3, 0)", x.byRule(3, 0), NONE);
        due("byRule(-1, 0)", x.byRule(-1, 0), NONE);
        due("byRule(0, 4)", x.byRule(0, 4), NONE);
        due("byRule(0, -1)", x.byRule(0, -1), NONE);
        due("no flights", new StormSlots().byRule(2, 3), -2);
        due("wrong, no flights", new StormSlots().byRule(2, 4), NONE);
        // who is off goes first by any rule: 0 and 1 circle 0 and 19
        x.now(91);
        due("byRule(1, 0)", x.byRule(1, 0), 3 * 3 * 19 + 4 * 35 + 2 * 58 + 77 + 96);
        due("byRule(1, 1)", x.byRule(1, 1), 35 + 58 + 77 + 96);
        due("byRule(1, 2)", x.byRule(1, 2), 96);
        StormSlots both = cutShort();
        both.rate(2, 1);
        due("circling is waiting", both.byRule(1, 2), 60);
        due("and no HOLD", both.byRule(1, 1), 0);
        due("and dear", both.byRule(1, 0), 180);
        // a line without any left is passed: e0, then a: 1, 2, 3
        StormSlots y = slow("e120/30;a121/30;a122/30;a123/30;e124/30*9");
        // in turn: a1 140, e0 120, a2 160, e4 180, a3 200
        due("byRule(2, 0)", y.byRule(2, 0), 19 + 38 + 9 * 56 + 77);
        // of one ETA by numbers: 0 120, 2 140, 1 160, 3 180
        due("byRule(2, 0)", slow("a120/30;a120/30*2;b120/30*3;b120/30*4").byRule(2, 0), 3 * 20 + 2 * 40 + 4 * 60);
        // by ETA first: 1 120, 2 140, 0 160
        StormSlots backward = of("a119/30*5;a118/30*2;b117/30*3");
        backward.rate(1, 0);
        backward.rate(2, 3);
        due("byRule(2, 0)", backward.byRule(2, 0), 2 * 2 + 3 * 23 + 5 * 41);
        // who is off at NOW has no part in the turns: 0 circles to 120, then 1 140, 2 160
        due("byRule(2, 0)", slow("a120/120;a120/30;b120/30*2").byRule(2, 0), 20 + 2 * 40);
        due("byRule(1, 0)", slow("a120/120;a120/30;b120/30*2").byRule(1, 0), 2 * 20 + 40);
    }

    private static void demands() {
        StormSlots x = six();
        x.cancel(2);
        int[][] want = {{2, 0, 6}, {2, 1, 3}, {2, 2, 2}, {3, 0, 0}, {3, 2, 3}, {0, 1, 12}, {11, 0, 0}};
        for (int[] w : want) due("demand(" + w[0] + ", " + w[1] + ")", x.demand(w[0], w[1]), w[2]);
        due("demand(12, 0)", x.demand(12, 0), NONE);
        due("demand(-1, 0)", x.demand(-1, 0), NONE);
        due("demand(0, 3)", x.demand(0, 3), NONE);
        due("demand(0, -1)", x.demand(0, -1), NONE);
        StormSlots y = of("a59/0;a60/0;a119/0;a120/0");
        due("demand(1, 0)", y.demand(1, 0), 2);
        due("demand(1, 2)", y.demand(1, 2), 0);
        y.plan();
        slots(y, 60, 65, 120, 125);
        int[] seated = {0, 2, 2, 0};
        for (int h = 0; h < 4; h++) due("demand(" + h + ", 2)", y.demand(h, 2), seated[h]);
        StormSlots late = of("a715/0;a719/0");
        late.plan();
        due("demand(11, 0)", late.demand(11, 0), 2);
        due("a SLOT at 720 is in no HOUR", late.demand(11, 2), 1);
    }

    private static void crowds() {
        StormSlots x = six();
        due("crowded(0)", x.crowded(0), 2);
        due("crowded(1)", x.crowded(1), 110);
        due("crowded(2)", x.crowded(2), NONE);
        due("crowded(-1)", x.crowded(-1), NONE);
        StormSlots y = of("a10/100;b10/100");
        due("nothing is planned", y.crowded(0), 0);
        due("nothing is planned", y.crowded(1), 0);
        y.plan();
        due("off before minute 0", y.crowded(0), 2);
        due("off before minute 0", y.crowded(1), 0);
        due("crowded(0)", three().crowded(0), 3);
        due("crowded(1)", three().crowded(1), 70);
        StormSlots z = of("a120/60;b60/60");
        z.plan();
        due("one lands as one goes off", z.crowded(0), 1);
        due("one lands as one goes off", z.crowded(1), 0);
        StormSlots alone = of("a100/50");
        alone.plan();
        due("one alone", alone.crowded(0), 1);
        due("one alone", alone.crowded(1), 50);
        StormSlots brief = of("a120/0");
        brief.plan();
        due("never under way", brief.crowded(0), 0);
        due("never under way", brief.crowded(1), 0);
    }

    private static void wouldBe() {
        StormSlots x = six();
        due("would(12, 2, 3, 0)", x.would(12, 2, 3, 0), 60);
        due("would(12, 2, 3, 1)", x.would(12, 2, 3, 1), 0);
        due("would(12, 2, 3, 2)", x.would(12, 2, 3, 2), 145);
        due("would(0, 2, 11, 2)", x.would(0, 2, 11, 2), 745);
        due("would(3, 0, 0, 0)", x.would(3, 0, 0, 0), 285);
        due("count(22)", x.count(22), 3);
        slots(x, 120, 140, 160, 180, 200, 220);
        x.cancel(2);
        x.now(100);
        due("would(12, 2, 3, 0)", x.would(12, 2, 3, 0), 0);
        due("would(12, 2, 3, 1)", x.would(12, 2, 3, 1), 60);
        due("count(5)", x.count(5), 1);
        int[][] bad = {{-1, 0, 0, 0}, {13, 0, 0, 0}, {1, -1, 0, 0}, {1, 0, 12, 0}, {1, 3, 2, 0}, {1, 0, 0, -1}, {1, 0, 0, 3}};
        for (int[] b : bad) due("a wrong one", x.would(b[0], b[1], b[2], b[3]), NONE);
        due("no flights", new StormSlots().would(1, 0, 0, 2), -2);
        due("wrong, no flights", new StormSlots().would(1, 0, 0, 3), NONE);
    }

    private static void ratesFor() {
        StormSlots x = six();
        int[][] want = {{19, -2}, {20, 12}, {21, 12}, {22, 11}, {24, 11}, {25, 10}, {139, 1}, {140, 0}, {1200, 0}};
        for (int[] w : want) due("rateFor(2, 3, " + w[0] + ")", x.rateFor(2, 3, w[0]), w[1]);
        due("count(22)", x.count(22), 3);
        slots(x, 120, 140, 160, 180, 200, 220);
        int[][] bad = {{-1, 0, 0}, {0, 12, 0}, {3, 2, 0}, {0, 0, -1}, {0, 0, 1201}};
        for (int[] b : bad) due("a wrong one", x.rateFor(b[0], b[1], b[2]), NONE);
        due("no flights", new StormSlots().rateFor(0, 0, 0), -2);
        due("circling is waiting", cutShort().rateFor(2, 2, 5), 11);
        due("circling is waiting", cutShort().rateFor(2, 2, 4), -2);
    }

    /** Both are off by NOW, so that they circle. */
    private static StormSlots cutShort() {
        StormSlots x = of("a120/60;b120/60");
        x.now(60);
        return x;
    }

    private static void ifRatesAreCut() {
        StormSlots x = three();
        due("ifCut(66, 2)", x.ifCut(66, 2), 25);
        due("ifCut(66, 0)", x.ifCut(66, 0), 1200);
        due("ifCut(125, 0)", x.ifCut(125, 0), 590);
        due("ifCut(0, 12)", x.ifCut(0, 12), 0);
        slots(x, 120, 125, 130);
        due("count(1)", x.count(1), 0);
        due("count(22)", x.count(22), 12);
        due("ifCut(-1, 2)", x.ifCut(-1, 2), NONE);
        due("ifCut(720, 2)", x.ifCut(720, 2), NONE);
        due("ifCut(66, -1)", x.ifCut(66, -1), NONE);
        due("ifCut(66, 13)", x.ifCut(66, 13), NONE);
        x.now(66);
        due("below NOW", x.ifCut(65, 2), NONE);
        due("at NOW", x.ifCut(66, 2), 25);
        due("nothing is planned", of("a1/1").ifCut(0, 0), -2);
        due("wrong, nothing is planned", of("a1/1").ifCut(0, 13), NONE);
        // the hour of that minute is cut from its beginning
        due("ifCut(119, 1)", x.ifCut(119, 1), 55 + 110);
    }

    private static void underWay() {
        StormSlots x = three();
        int[][] want = {{0, 0}, {59, 0}, {60, 1}, {64, 1}, {65, 3}, {70, 7}, {119, 7}, {120, 6}, {125, 4}, {130, 0}, {1199, 0},
            {1200, NONE}, {-1, NONE}, {LEAST, NONE}};
        for (int[] w : want) due("airborne(" + w[0] + ")", x.airborne(w[0]), w[1]);
        x.cancel(1);
        due("without who is cancelled", x.airborne(100), 5);
        due("nothing is planned", of("a100/50").airborne(70), 0);
    }

    private static void landings() {
        StormSlots x = six();
        x.exchange(4, 5);
        int[][] want = {{0, 0}, {120, 0}, {121, 1}, {180, 3}, {181, 5}, {201, 4}, {220, 4}, {221, -2}, {1199, -2}, {1200, NONE}, {-1, NONE}};
        for (int[] w : want) due("next(" + w[0] + ")", x.next(w[0]), w[1]);
        x.cancel(0);
        due("next(0)", x.next(0), 1);
        due("nothing is planned", of("a1/1").next(0), -2);
    }

    private static void counts() {
        StormSlots x = six();
        x.offer(4, 300, 5, 200);
        x.link(0, 1, 300);
        x.link(0, 5, 0);
        x.cancel(2);
        x.now(3);
        x.feed(1, 2, 3, 4, 5);
        x.keep();
        int[] want = {6, 3, 1, 247, 0, 1, 1, 1, 20, 1, 222, 2, 1};
        for (int w = 0; w < want.length; w++) due("count(" + w + ")", x.count(w), want[w]);
        due("count(22)", x.count(22), 3);
        due("count(31)", x.count(31), 12);
        for (int w : new int[] {-1, 13, 19, 32, MOST, LEAST}) due("count(" + w + ")", x.count(w), NONE);
        x.now(100);
        x.plan();
        due("count(3)", x.count(3), 0);
        due("count(4)", x.count(4), 285);
    }

    private static void keeping() {
        StormSlots x = six();
        for (int k = 1; k <= 8; k++) due("keep()", x.keep(), k);
        due("keep()", x.keep(), NONE);
        due("count(9)", x.count(9), 8);
    }

    private static void undoing() {
        StormSlots x = six();
        due("undo()", x.undo(), NONE);
        x.cancel(2);
        x.offer(4, 300, 5, 200);
        x.link(0, 1, 10);
        x.now(3);
        x.keep();
        x.feed(1, 2, 3, 4, 5);
        x.fill();
        x.keep();
        x.withdraw(0);
        x.link(3, 4, 9);
        x.now(400);
        x.storm(3, 0, 11, 12);
        read(x, "e1/1");
        x.plan();
        x.feed(1, 2, 3, 4, 5);
        due("undo()", x.undo(), 1);
        slots(x, 120, 140, -2, 160, 180, 200);
        due("undo()", x.undo(), 0);
        slots(x, 120, 140, -2, 180, 200, 220);
        int[] want = {6, 3, 1, 247, 0, 1, 1, 1, 20, 0, 222, 1, 1};
        for (int w = 0; w < want.length; w++) due("count(" + w + ")", x.count(w), want[w]);
        due("letter(-1)", x.letter(-1), 53);
        due("vacant(0, 1)", x.vacant(0, 1), 1);
        due("offered(0, 1)", x.offered(0, 1), 300);
        due("linked(0, 2)", x.linked(0, 2), 10);
        due("told(3, 6)", x.told(3, 6), 57);
        StormSlots y = six();
        y.cancel(2);
        y.offer(4, 300, 5, 200);
        y.link(4, 5, 10);
        y.keep();
        y.plan();
        y.cancel(5);
        y.offer(0, 301, 1, 201);
        y.undo();
        due("vacant(0, 0)", y.vacant(0, 0), 160);
        due("vacant(0, 1)", y.vacant(0, 1), 1);
        int[] offer = {4, 300, 5, 200};
        for (int w = 0; w < 4; w++) due("offered(0, " + w + ")", y.offered(0, w), offer[w]);
        y.keep();
        read(y, "a1/1;b2/2;c3/3");
        y.link(2, 1, 11);
        y.undo();
        int[] link = {4, 5, 10};
        for (int w = 0; w < 3; w++) due("linked(0, " + w + ")", y.linked(0, w), link[w]);
        due("undo()", x.undo(), NONE);
        due("a state kept again", x.keep(), 1);
        x.cancel(0);
        due("undo()", x.undo(), 0);
        due("told(0, 9)", x.told(0, 9), 0);
    }

    public static void main(String[] args) {
        about = "promise 1"; newObject();
        about = "promise 2"; feeding();
        about = "promise 3"; reading(); readingFaults();
        about = "promise 4"; addingFlights();
        about = "promise 5"; drawing();
        about = "promise 6"; letters();
        about = "promise 7"; ratesOfHours();
        about = "promise 8"; storms();
        about = "promise 9"; clock();
        about = "promise 10"; telling();
        about = "promise 11"; slotsByMinutes();
        about = "promise 12"; atMinutes();
        about = "promise 13"; planning();
        about = "promise 14"; revising();
        about = "promise 15"; cancelling();
        about = "promise 16"; exchanging();
        about = "promise 17"; moving();
        about = "promise 18"; filling();
        about = "promise 19"; vacantSlots();
        about = "promise 20"; offering();
        about = "promise 21"; withdrawing();
        about = "promise 22"; offersTold();
        about = "promise 23"; dealing();
        about = "promise 24"; bestDeals();
        about = "promise 25"; linesTold();
        about = "promise 26"; bestOrders();
        about = "promise 27"; ordering();
        about = "promise 28"; bestCancels();
        about = "promise 29"; helping();
        about = "promise 30"; ranks();
        about = "promise 31"; unfairness();
        about = "promise 32"; linking();
        about = "promise 33"; linksTold();
        about = "promise 34"; breaking();
        about = "promise 35"; rounds();
        about = "promise 36"; cancellingAll();
        about = "promise 37"; rules();
        about = "promise 38"; demands();
        about = "promise 39"; crowds();
        about = "promise 40"; wouldBe();
        about = "promise 41"; ratesFor();
        about = "promise 42"; ifRatesAreCut();
        about = "promise 43"; underWay();
        about = "promise 44"; landings();
        about = "promise 45"; counts();
        about = "promise 46"; keeping();
        about = "promise 47"; undoing();
        end();
    }
}
