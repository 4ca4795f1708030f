import java.util.function.IntUnaryOperator;

/** The sentences under 'Terms', one after the other, each at the edge that it names; answers worked out by hand. */
public final class TermsTest extends Asked {
    // ---- SLOTS

    private static void slotsOfRates() {
        about = "SLOTS: of HOUR h with RATE r those at minute 60 h and (60 i through r, cut), i 0 to r less 1";
        int[][] minutes = {{}, {0}, {0, 30}, {0, 20, 40}, {0, 15, 30, 45}, {0, 12, 24, 36, 48}, {0, 10, 20, 30, 40, 50},
            {0, 8, 17, 25, 34, 42, 51}, {0, 7, 15, 22, 30, 37, 45, 52}, {0, 6, 13, 20, 26, 33, 40, 46, 53},
            {0, 6, 12, 18, 24, 30, 36, 42, 48, 54}, {0, 5, 10, 16, 21, 27, 32, 38, 43, 49, 54},
            {0, 5, 10, 15, 20, 25, 30, 35, 40, 45, 50, 55}};
        for (int r = 0; r <= 12; r++) {
            for (int h : new int[] {0, 7, 11}) {
                StormSlots x = new StormSlots();
                x.rate(h, r);
                due("count(10) at RATE " + r, x.count(10), 228 + r);
                for (int i = 0; i < r; i++) due("slot " + i + " of RATE " + r, x.slot(12 * h + i), 60 * h + minutes[r][i]);
                due("the next HOUR's first", x.slot(12 * h + r), 60 * h + 60);
                int found = 0;
                for (int m = 60 * h; m < 60 * h + 60; m++) found += x.at(m) == -2 ? 1 : 0;
                due("minutes with a SLOT at RATE " + r, found, r);
                for (int i = 0; i < r; i++) due("at() of slot " + i, x.at(60 * h + minutes[r][i]), -2);
            }
        }
    }

    private static void lateSlots() {
        about = "from minute 720 on one each 5 minutes (720, 725, .. 1195)";
        StormSlots x = new StormSlots();
        x.storm(0, 0, 11, 0);
        due("count(10)", x.count(10), 96);
        due("slot(0)", x.slot(0), 720);
        due("slot(1)", x.slot(1), 725);
        due("slot(95)", x.slot(95), 1195);
        due("slot(96)", x.slot(96), -2);
        for (int from = 0; from < 1200; from += 400) {
            // an object is good for 512 calls
            StormSlots y = new StormSlots();
            y.storm(0, 0, 11, 0);
            for (int m = from; m < from + 400; m++) due("at(" + m + ")", y.at(m), m >= 720 && m % 5 == 0 ? -2 : -4);
        }
    }

    // ---- A SCHEDULE

    /** Every byte at one place of a text, against what is due there. */
    private static void everyByte(String before, String behind, IntUnaryOperator due) {
        for (int c = 0; c < 256; c++) {
            StormSlots x = new StormSlots();
            due("\"" + before + "(" + c + ")" + behind + "\"", read(x, before + (char) c + behind), due.applyAsInt(c));
        }
    }

    private static boolean isDigit(int c) {
        return c >= 48 && c <= 57;
    }

    private static boolean isLetter(int c) {
        return c >= 97 && c <= 101;
    }

    private static void bytes() {
        about = "FAULT 1: it can't stand there";
        everyByte("", "a1/1", c -> isLetter(c) ? -1001 : c == 32 ? 1 : -1000);
        everyByte("a", "1/1", c -> isDigit(c) || c == 32 ? 1 : -1001);
        everyByte("a1", "/1", c -> isDigit(c) || c == 32 ? 1 : c == 47 ? -1003 : -1002);
        everyByte("a1 ", "", c -> c == 47 || c == 32 ? -1004 : -1003);
        everyByte("a1/", "1", c -> isDigit(c) || c == 32 ? 1 : -1003);
        everyByte("a1/1", ";b1/1", c -> isDigit(c) || c == 32 ? 2 : c == 42 || c == 59 ? -1005 : -1004);
        everyByte("a1/1 ", "", c -> c == 32 ? 1 : c == 42 || c == 59 ? -1006 : -1005);
        everyByte("a1/1*", "", c -> c == 48 ? -2005 : isDigit(c) ? 1 : c == 32 ? -1006 : -1005);
        everyByte("a1/1*5", ";b1/1", c -> c == 32 ? 2 : c == 59 ? -1007 : -1006);
        everyByte("a1/1;", "b1/1", c -> c == 32 ? 2 : isLetter(c) ? -1006 : -1005);
        everyByte("a1/1*5 ", "", c -> c == 32 ? 1 : c == 59 ? -1008 : -1007);
    }

    private static void text(String text, int want) {
        due("\"" + text + "\"", read(new StormSlots(), text), want);
    }

    private static void lengthsOfTexts() {
        about = "a TEXT of 1 to 160 bytes";
        text("a", -1001);
        text(" ", -1001);
        text("a120/30;".repeat(19) + "a120/30", 20);
        text(" " + "a120/30;".repeat(19) + "a120/30", 20);
        text("a120/30;".repeat(19) + "a120/30 ", 20);
        text("a120/30;".repeat(20), -1160);
        text(" ".repeat(160), -1160);
        text(" ".repeat(156) + "e0/0", 1);
        text(" ".repeat(157) + "e0/0", NONE);
        StormSlots x = new StormSlots();
        feed(x, "a1/2*3;b4/5");
        due("what stands behind n is not read", x.schedule(4), 1);
        due("told(0, 3)", x.told(0, 3), 1);
        feed(x, "a12345");
        due("the end at the length", x.schedule(3), -1003);
    }

    private static void ends() {
        about = "the end: at the length";
        String whole = "a1/2*3;b45/6";
        int[] want = {-1001, -1002, -1003, 1, -1005, 1, -1007, -1008, -1009, -1010, -1011, 2};
        for (int n = 1; n <= whole.length(); n++) text(whole.substring(0, n), want[n - 1]);
        text("a1/2*3 ; ", -1009);
        text("a 1 ", -1004);
    }

    private static void numbers() {
        about = "Numbers: 1 to 3 digits (a fourth digit, too, can't stand there)";
        for (String ok : new String[] {"a7/7", "a07/07", "a007/007", "a000/000", "a719/300", "a0/0"}) text(ok, 1);
        text("a0007/7", -1004);
        text("a7/0007", -1006);
        text("a1234", -1004);
        text("a7199/300", -1004);
        text("a719/3000", -1008);
        text("  a  0000", -1008);
        about = "FAULT 2: a number that there is not, at its first digit, told when its digits end";
        for (String end : new String[] {"", " ", "/1", " /1", ";", "x", "a", "*", "/"}) text("a720" + end, -2001);
        for (String end : new String[] {"", " ", "*2", " *2", ";", "x", "/", ";b1/1"}) text("a1/301" + end, -2003);
        text("a719/1", 1);
        text("a1/300", 1);
        text("a  999/1", -2003);
        text("a1/  999", -2005);
        text("a7200", -1004);
        text("a9999", -1004);
        text("a1/3010", -1006);
        text("a1/9999", -1006);
    }

    private static void weights() {
        about = "WEIGHT; it ends with that digit: a 0 is told there, whatever stands behind it";
        for (int w = 1; w <= 9; w++) due("told(0, 3)", of("a1/2*" + w).told(0, 3), w);
        due("told(0, 3), 1 without", of("a1/2").told(0, 3), 1);
        for (String behind : new String[] {"", " ", "0", "1", "9", ";", ";b1/1", "x", "*"}) text("a1/2*0" + behind, -2005);
        for (String behind : new String[] {"0", "1", "9", "x", "*", "/"}) text("a1/2*1" + behind, -1006);
        text("a1/2* 0", -2006);
        text("a1/2 * 9 ; b1/2", 2);
        text("a1/2*1 1", -1007);
    }

    private static void blanks() {
        about = "Blanks (32) are where one likes, not among digits";
        String[] parts = {"a", "12", "/", "34", "*", "5", ";", "b", "6", "/", "7"};
        for (int gap = 0; gap <= parts.length; gap++) {
            StringBuilder b = new StringBuilder();
            for (int k = 0; k < parts.length; k++) b.append(k == gap ? "  " : "").append(parts[k]);
            b.append(gap == parts.length ? "  " : "");
            StormSlots x = of(b.toString());
            due("count(0) of \"" + b + "\"", x.count(0), 2);
            int[] want = {0, 12, 34, 5, 1, 6, 7, 1};
            for (int k = 0; k < 8; k++) due("told(" + k / 4 + ", " + k % 4 + ")", x.told(k / 4, k % 4), want[k]);
        }
        text("a1 2/34", -1003);
        text("a12/3 4", -1006);
        text("a12/34*5 6", -1009);
    }

    private static void faultsInOrder() {
        about = "FAULTS, the first byte from the left that is wrong, of one byte the least";
        text("a720/301*0", -2001);
        text("a1/301*0", -2003);
        text("a1x301", -1002);
        text("a1/2;a720/x", -2006);
        text("f1/2;a720/1", -1000);
        about = "FAULT 3: a 21st FLIGHT, at its letter";
        String twenty = "a0/0;".repeat(20);
        text("a0/0;".repeat(19) + "a0/0", 20);
        text(twenty + "a", -3100);
        text(twenty + "a0/0", -3100);
        text(twenty + "e720", -3100);
        text(twenty + "   e", -3103);
        text(twenty + "f", -1100);
        text(twenty + "1", -1100);
        text(twenty + ";", -1100);
        text(twenty, -1100);
        text("a0/0;".repeat(19) + "a0/301;a", -2098);
        text("a720/0;" + twenty, -2001);
    }

    // ---- EARLIEST, IN THE AIR, ETA, HOLD and CIRCLES

    private static void earliest() {
        about = "EARLIEST of a FLIGHT: ETA, or NOW and TIME, if that is later";
        StormSlots x = of("a100/40;b719/300;c0/0");
        int[][] want = {{0, 100, 719, 0}, {60, 100, 719, 60}, {61, 101, 719, 61}, {419, 459, 719, 419}, {420, 460, 720, 420}, {719, 759, 1019, 719}};
        for (int[] w : want) {
            x.now(w[0]);
            for (int f = 0; f < 3; f++) due("told(" + f + ", 4) at " + w[0], x.told(f, 4), w[f + 1]);
        }
    }

    private static void inTheAir() {
        about = "IN THE AIR, if it is planned, not CANCELLED, and OFF and HOLD together are NOW or less";
        StormSlots x = six();
        int[] off = {90, 110, 130, 150, 170, 190};
        for (int f = 0; f < 6; f++) {
            x.now(off[f] - 1);
            due("told(" + f + ", 8) a minute ahead", x.told(f, 8), 0);
            x.now(off[f]);
            due("told(" + f + ", 8) then", x.told(f, 8), 1);
            due("cancel(" + f + ")", x.cancel(f), -3);
        }
        for (int l = 0; l < 3; l++) due("line(" + l + ", 6)", x.line(l, 6), 2);
        x.now(719);
        due("told(0, 8), landed long ago", x.told(0, 8), 1);
        StormSlots y = of("a0/300;a10/0");
        due("not planned", y.told(0, 8), 0);
        y.plan();
        due("planned", y.told(0, 8), 1);
        y.cancel(1);
        y.now(500);
        due("CANCELLED", y.told(1, 8), 0);
        due("line(0, 6)", y.line(0, 6), 1);
    }

    private static void addsUp(StormSlots x) {
        for (int f = 0; f < x.count(0); f++)
            if (x.told(f, 5) != -2) due("SLOT of " + f, x.told(f, 1) + x.told(f, 6) + x.told(f, 7), x.told(f, 5));
    }

    private static void togetherTheSlot() {
        about = "ETA, HOLD and CIRCLES together are its SLOT";
        StormSlots x = new StormSlots();
        x.draws(11, 20);
        x.storm(5, 0, 11, 2);
        x.now(100);
        x.plan();
        addsUp(x);
        x.now(240);
        x.storm(6, 0, 11, 2);
        x.revise();
        due("some circle, some are held", x.count(3) > 0 && x.count(4) > 0, true);
        addsUp(x);
    }

    // ---- THE PLAN

    private static void planned(int now, int hold, int circles, int... want) {
        StormSlots x = of("a121/20;b120/20;c120/21");
        x.rate(2, 2);
        x.now(now);
        due("plan() at " + now, x.plan(), 2);
        slots(x, want);
        due("count(3) at " + now, x.count(3), hold);
        due("count(4) at " + now, x.count(4), circles);
    }

    private static void whoIsOffFirst() {
        about = "First FLIGHTS with OFF at NOW or earlier, by ETA, then numbers; then the others, likewise";
        planned(98, 89, 0, 180, 120, 150);
        planned(99, 89, 0, 180, 150, 120);
        planned(100, 59, 30, 180, 120, 150);
        planned(101, 0, 89, 180, 120, 150);
        StormSlots x = of("a70/70;b65/65;c65/65;d64/70");
        x.rate(1, 3);
        due("plan()", x.plan(), 4);
        slots(x, 125, 100, 120, 80);
        due("count(4)", x.count(4), 55 + 35 + 55 + 16);
    }

    private static void firstFreeSlot() {
        about = "each has the first free SLOT at ETA or later";
        int[][] want = {{120, 120}, {121, 125}, {124, 125}, {125, 125}, {126, 130}, {715, 715}, {716, 720}, {719, 720}};
        for (int[] w : want) {
            StormSlots air = new StormSlots();
            air.flight(0, w[0], Math.min(300, w[0]), 1);
            air.now(Math.max(0, w[0] - 300));
            air.plan();
            slots(air, w[1]);
            due("told(0, 7)", air.told(0, 7), w[1] - w[0]);
            due("told(0, 6)", air.told(0, 6), 0);
            StormSlots ground = new StormSlots();
            ground.flight(0, w[0], 1, 1);
            ground.plan();
            slots(ground, w[1]);
            due("told(0, 6)", ground.told(0, 6), w[1] - w[0]);
            due("told(0, 7)", ground.told(0, 7), 0);
        }
    }

    private static void alwaysOne() {
        about = "720 on always has one";
        for (int now = 718; now < 720; now++) {
            StormSlots x = of("a719/0;".repeat(19) + "a719/0");
            x.storm(0, 0, 11, 0);
            x.now(now);
            due("plan()", x.plan(), 20);
            for (int f = 0; f < 20; f++) due("told(" + f + ", 5)", x.told(f, 5), 720 + 5 * f);
            due("HOLD", x.count(3), now == 718 ? 970 : 0);
            due("CIRCLES", x.count(4), now == 718 ? 0 : 970);
        }
        StormSlots x = of("a0/0");
        x.plan();
        x.now(719);
        for (int f = 1; f < 20; f++) x.flight(0, 719, 300, 9);
        due("revise()", x.revise(), 19);
        for (int f = 1; f < 20; f++) due("told(" + f + ", 5)", x.told(f, 5), 1015 + 5 * f);
        due("next(1110)", x.next(1110), 19);
        due("next(1111)", x.next(1111), -2);
        due("airborne(1109)", x.airborne(1109) & 1 << 19, 1 << 19);
        due("would(0, 0, 11, 2)", x.would(0, 0, 11, 2), 720 + 95);
        int[][] late = {{719, 0, 720}, {620, 100, 720}, {620, 101, 725}, {700, 100, 800}, {700, 101, 805}, {715, 300, 1015}};
        for (int[] l : late) {
            StormSlots y = of("a0/0");
            y.plan();
            y.now(l[0]);
            y.flight(0, 0, l[1], 1);
            y.storm(0, 11, 11, 0);
            due("revise()", y.revise(), 1);
            slots(y, 0, l[2]);
        }
    }

    private static void nothingLeft() {
        about = "THE PLAN, made anew: nothing is CANCELLED, no SLOT is VACANT, no OFFERS";
        StormSlots x = six();
        x.link(0, 1, 7);
        x.cancel(2);
        x.offer(4, 300, 5, 200);
        due("plan()", x.plan(), 5);
        due("told(2, 9)", x.told(2, 9), 0);
        due("told(2, 5)", x.told(2, 5), 160);
        due("count(5)", x.count(5), 0);
        due("count(6)", x.count(6), 0);
        due("vacant(0, 0)", x.vacant(0, 0), -2);
        due("count(7)", x.count(7), 0);
        due("offered(0, 0)", x.offered(0, 0), NONE);
        due("LINKS stay", x.count(11), 1);
    }

    // ---- REVISED

    private static void landedStay() {
        about = "FLIGHTS IN THE AIR with a SLOT at NOW or earlier have landed and stay";
        StormSlots x = three();
        x.now(124);
        x.rate(2, 0);
        due("revise()", x.revise(), 2);
        slots(x, 120, 180, 185);
        StormSlots y = three();
        y.now(125);
        y.rate(2, 0);
        due("revise()", y.revise(), 1);
        slots(y, 120, 125, 180);
        StormSlots z = three();
        z.now(130);
        z.rate(2, 0);
        due("revise()", z.revise(), 0);
        slots(z, 120, 125, 130);
    }

    /** One that circles from 100 to 120, as HOUR 1 had no SLOTS; then it has them again. */
    private static StormSlots circling(int now) {
        StormSlots x = of("a100/90");
        x.rate(1, 0);
        x.now(10);
        x.plan();
        x.rate(1, 12);
        x.now(now);
        return x;
    }

    private static void behindNow() {
        about = "each has the first free SLOT at that minute or later, and behind NOW: CIRCLES";
        int[][] want = {{10, 100, 1}, {99, 100, 1}, {100, 105, 1}, {104, 105, 1}, {105, 110, 1}, {114, 115, 1}, {115, 120, 0}, {119, 120, 0}, {120, 120, 0}};
        for (int[] w : want) {
            StormSlots x = circling(w[0]);
            due("told(0, 7) ahead", x.told(0, 7), 20);
            due("revise() at " + w[0], x.revise(), w[2]);
            slots(x, w[1]);
            due("told(0, 6)", x.told(0, 6), 0);
            due("told(0, 7)", x.told(0, 7), w[1] - 100);
        }
    }

    private static void inOrderOfEtaAndHold() {
        about = "The others IN THE AIR keep HOLD; by ETA and HOLD together, then numbers";
        StormSlots x = of("a100/90;b121/121;c120/120");
        x.rate(1, 0);
        x.plan();
        slots(x, 130, 125, 120);
        x.now(40);
        x.rate(2, 0);
        due("revise()", x.revise(), 3);
        slots(x, 190, 185, 180);
        due("told(0, 6)", x.told(0, 6), 30);
        due("told(0, 7)", x.told(0, 7), 60);
        StormSlots y = of("a120/120;b120/120");
        y.plan();
        y.rate(2, 0);
        due("revise()", y.revise(), 2);
        slots(y, 180, 185);
    }

    private static void thenTheOthers() {
        about = "Then all others that are not CANCELLED, by ETA, then numbers: the first free SLOT at EARLIEST or later: HOLD, CIRCLES 0";
        StormSlots x = of("a120/0;b120/0");
        x.plan();
        x.now(119);
        x.cancel(0);
        x.now(120);
        due("a SLOT at NOW", x.revise(), 1);
        slots(x, -2, 120);
        // those with a SLOT and those without one are in one order
        StormSlots y = six();
        y.flight(3, 121, 30, 1);
        y.flight(3, 121, 30, 1);
        due("revise()", y.revise(), 6);
        slots(y, 120, 140, 200, 220, 240, 245, 160, 180);
        // who was off by its plan, but is told too late, is held
        StormSlots z = three();
        z.now(100);
        z.flight(3, 110, 60, 1);
        due("revise()", z.revise(), 1);
        due("told(3, 5)", z.told(3, 5), 160);
        due("told(3, 6)", z.told(3, 6), 50);
        due("told(3, 7)", z.told(3, 7), 0);
        z.now(101);
        z.flight(3, 110, 60, 1);
        due("revise()", z.revise(), 1);
        due("told(4, 5), as 160 is kept by one in the air", z.told(4, 5), 165);
    }

    private static void nothingVacant() {
        about = "No SLOT is VACANT, no OFFERS then";
        StormSlots x = six();
        x.link(0, 1, 7);
        x.offer(4, 300, 5, 200);
        x.cancel(2);
        due("the SLOT of one CANCELLED is free", x.revise(), 3);
        slots(x, 120, 140, -2, 160, 180, 200);
        due("count(5)", x.count(5), 1);
        due("count(6)", x.count(6), 0);
        due("count(7)", x.count(7), 0);
        due("LINKS stay", x.count(11), 1);
        due("at(220)", x.at(220), -2);
        due("cancel(2)", x.cancel(2), -2);
    }

    private static void freeSlots() {
        about = "Free is a SLOT by RATES now that no FLIGHT has that was given one, or has landed";
        StormSlots x = of("a120/60;b120/0");
        x.plan();
        x.now(120);
        due("120 is of one that has landed", x.revise(), 0);
        slots(x, 120, 125);
        x.rate(2, 7);
        due("by RATES now", x.revise(), 1);
        slots(x, 120, 128);
    }

    // ---- CANCELLED, EXCHANGED, MOVED, FILLED

    private static void cancelled() {
        about = "CANCELLED is a FLIGHT (planned, not IN THE AIR, not yet): its SLOT is VACANT, kept by its LINE";
        for (int f = 0; f < 6; f++) {
            int off = 90 + 20 * f;
            StormSlots x = six();
            x.now(off - 1);
            due("cancel(" + f + ") a minute ahead", x.cancel(f), 120 + 20 * f);
            due("at()", x.at(120 + 20 * f), -3);
            due("vacant(0, 1)", x.vacant(0, 1), f / 2);
            due("not twice", x.cancel(f), -2);
            StormSlots y = six();
            y.now(off);
            due("cancel(" + f + ") when it is off", y.cancel(f), -3);
            due("at()", y.at(120 + 20 * f), f);
        }
        due("not planned", of("a120/30").cancel(0), -2);
    }

    private static void exchanged() {
        about = "EXCHANGED, if the SLOT of each is at EARLIEST of the other one or later";
        due("at its ETA", slow("a120/30;a120/30").exchange(0, 1), 0);
        due("a minute ahead of its ETA", slow("a120/30;a121/30").exchange(0, 1), CANNOT);
        due("either way", slow("a120/30;a121/30").exchange(1, 0), CANNOT);
        for (int now = 60; now < 62; now++) {
            StormSlots x = slow("a120/20;a120/60");
            x.now(now);
            due("by NOW and TIME, at " + now, x.exchange(0, 1), now == 60 ? 0 : CANNOT);
            StormSlots y = slow("a120/20;a120/60");
            y.now(now);
            due("by NOW and TIME, at " + now, y.exchange(1, 0), now == 60 ? 0 : CANNOT);
        }
        for (int now = 89; now < 91; now++) {
            StormSlots x = slow("a120/30;a120/10");
            x.now(now);
            due("not IN THE AIR, at " + now, x.exchange(0, 1), now == 89 ? 0 : CANNOT);
        }
        about = "by how much COST of their LINE is less then (may be below 0)";
        due("less", slow("a120/30;a120/30*9").exchange(0, 1), 160);
        due("more", slow("a120/30*9;a120/30").exchange(0, 1), -160);
    }

    private static void moved() {
        about = "MOVED is such a FLIGHT into a VACANT SLOT of its LINE, at its EARLIEST or later: the one that it had is VACANT";
        StormSlots x = slow("a120/30;a120/30;b120/30;b120/30");
        x.cancel(0);
        due("not of its LINE", x.move(2, 120), -2);
        due("later than VACANT", x.move(1, 140), -2);
        due("at its EARLIEST", x.move(1, 120), 140);
        due("at(140)", x.at(140), -3);
        due("at(120)", x.at(120), 1);
        due("vacant(0, 1)", x.vacant(0, 1), 0);
        due("to a later one", x.move(1, 140), 120);
        due("told(1, 6)", x.told(1, 6), 20);
        for (int now = 60; now < 62; now++) {
            StormSlots y = slow("a120/20;a120/60");
            y.cancel(0);
            y.now(now);
            due("by NOW and TIME, at " + now, y.move(1, 120), now == 60 ? 140 : -2);
        }
        StormSlots z = slow("a120/30;a121/30");
        z.cancel(0);
        due("ahead of its ETA", z.move(1, 120), -2);
        for (int now = 109; now < 111; now++) {
            StormSlots y = slow("a120/30;a120/30;a120/30");
            y.cancel(2);
            y.now(now);
            due("not IN THE AIR, at " + now, y.move(1, 160), now == 109 ? 140 : -2);
        }
    }

    private static void filled() {
        about = "FILLED: by FLIGHTS that have a later SLOT and whose EARLIEST is not behind the VACANT one";
        due("at its ETA", filledWithout(0, "a120/30;b120/30"), 1);
        due("a minute behind", filledWithout(0, "a120/30;b121/30"), 0);
        due("an earlier SLOT", filledWithout(1, "a120/30;b120/30"), 0);
        for (int now = 60; now < 62; now++) {
            StormSlots x = slow("a120/20;b120/60");
            x.cancel(0);
            x.now(now);
            due("by NOW and TIME, at " + now, x.fill(), now == 60 ? 1 : 0);
        }
        about = "FILLED: the one of the LINE that keeps it with the earliest SLOT";
        StormSlots own = slow("a120/30;b120/30;a120/30;a120/30");
        own.cancel(0);
        due("fill()", own.fill(), 2);
        slots(own, -2, 140, 120, 160);
        due("vacant(0, 0)", own.vacant(0, 0), 180);
        about = "FILLED: if there is none of that LINE, of all others the one with the earliest SLOT; kept by the LINE that kept the other one";
        StormSlots others = slow("a120/30;b121/30;c120/30;b120/30");
        slots(others, 120, 180, 140, 160);
        others.cancel(0);
        due("fill()", others.fill(), 3);
        slots(others, -2, 160, 120, 140);
        due("vacant(0, 0)", others.vacant(0, 0), 180);
        due("vacant(0, 1)", others.vacant(0, 1), 0);
        about = "FILLED: again and again the first VACANT SLOT (by minute) that can be filled";
        StormSlots two = slow("a120/30;b120/30;b120/30;a120/30");
        two.cancel(1);
        two.cancel(0);
        due("fill()", two.fill(), 2);
        slots(two, -2, -2, 140, 120);
        due("vacant(0, 1)", two.vacant(0, 1), 1);
        due("vacant(1, 1)", two.vacant(1, 1), 0);
        StormSlots second = six();
        second.cancel(0);
        second.cancel(2);
        due("the first can't be filled", second.fill(), 3);
        slots(second, -2, 140, -2, 160, 180, 200);
        due("vacant(0, 0)", second.vacant(0, 0), 120);
        due("vacant(1, 0)", second.vacant(1, 0), 220);
        due("nothing more", second.fill(), 0);
    }

    private static int filledWithout(int f, String text) {
        StormSlots x = slow(text);
        x.cancel(f);
        return x.fill();
    }

    // ---- OFFERS, DEALS

    private static void offers() {
        about = "AN OFFER: a, b unlike, of one LINE, planned, not CANCELLED, not IN THE AIR";
        due("a is b", alike().offer(3, 0, 3, 0), NONE);
        due("of unlike LINES", six().offer(1, 0, 2, 0), -2);
        for (int f = 0; f < 2; f++) {
            StormSlots x = alike();
            x.cancel(3 + f);
            due("one is CANCELLED", x.offer(3, 0, 4, 0), -2);
            StormSlots y = alike();
            y.flight(0, 120, 30, 1);
            due("one is not planned", f == 0 ? y.offer(6, 0, 4, 0) : y.offer(3, 0, 6, 0), -2);
            StormSlots z = alike();
            z.now(149);
            due("neither is IN THE AIR", f == 0 ? z.offer(3, 0, 5, 0) : z.offer(5, 0, 3, 0), 0);
            z.now(150);
            due("one is IN THE AIR", f == 0 ? z.offer(3, 0, 5, 0) : z.offer(5, 0, 3, 0), -2);
        }
    }

    private static int dealt(StormSlots x) {
        x.offer(0, 999, 2, 999);
        x.offer(1, 999, 3, 999);
        return x.deal(0, 1);
    }

    private static void dealsOfFour() {
        about = "A DEAL can be, if all four are still so";
        due("they are", dealt(market()), 560);
        for (int f = 0; f < 4; f++) {
            StormSlots x = market();
            x.offer(0, 999, 2, 999);
            x.offer(1, 999, 3, 999);
            x.cancel(f);
            due(f + " is CANCELLED", x.deal(0, 1), CANNOT);
            due("bestDeal(0)", x.bestDeal(0), CANNOT);
            StringBuilder text = new StringBuilder();
            for (int g = 0; g < 4; g++) text.append(g > 0 ? ";" : "").append(g % 2 == 0 ? "a" : "b").append(f == g ? "120/100" : "120/10");
            for (int now = 19; now < 21; now++) {
                StormSlots y = slow(text.toString());
                y.offer(0, 999, 2, 999);
                y.offer(1, 999, 3, 999);
                y.now(now + 20 * f);
                // 2 and 3 on their long way can't go up as late as that, though they are not off
                due(f + " is IN THE AIR at " + now, y.deal(0, 1), now == 19 && f < 2 ? 0 : CANNOT);
            }
        }
        about = "A DEAL: both go the ways that they offer";
        StormSlots x = market();
        x.offer(2, 999, 0, 999);
        x.offer(1, 999, 3, 999);
        due("one of both goes the wrong way", x.deal(0, 1), CANNOT);
        due("one of both goes the wrong way", x.deal(1, 0), CANNOT);
    }

    private static void dealsInTime() {
        about = "A DEAL: b of both not ahead of their EARLIEST";
        due("at its ETA", dealt(slow("a120/30;b120/30;a140/30*5;b120/30*9")), 160 + 320);
        due("a minute ahead", dealt(slow("a120/30;b120/30;a141/30*5;b120/30*9")), CANNOT);
        due("a minute ahead", dealt(slow("a120/30;b120/30;a120/30*5;b121/30*9")), CANNOT);
        for (int now = 60; now < 62; now++) {
            StormSlots x = slow("a120/30;b120/30;a120/30*5;b120/60*9");
            x.now(now);
            due("by NOW and TIME, at " + now, dealt(x), now == 60 ? 560 : CANNOT);
        }
        about = "Done, both OFFERS are gone";
        StormSlots x = market();
        for (int i = 0; i < 4; i++) x.offer(i % 2, 999, 2 + i % 2, 999);
        due("deal(2, 1)", x.deal(2, 1), 560);
        due("count(7)", x.count(7), 2);
        due("offered(0, 0)", x.offered(0, 0), 0);
        due("offered(1, 0)", x.offered(1, 0), NONE);
        due("offered(2, 0)", x.offered(2, 0), NONE);
        due("offered(3, 0)", x.offered(3, 0), 1);
        about = "An OFFER keeps its number; the lowest free one is given";
        due("offer", x.offer(0, 7, 2, 7), 1);
        due("offer", x.offer(0, 8, 2, 8), 2);
        due("offer", x.offer(0, 9, 2, 9), 4);
        due("offered(3, 1)", x.offered(3, 1), 999);
    }

    // ---- COST, BEST ORDER, WAITS

    private static void costs() {
        about = "COST of a FLIGHT: WEIGHT times (HOLD and 3 times CIRCLES)";
        StormSlots x = of("a100/100*9;a101/90*2;b102/90");
        x.rate(1, 0);
        x.plan();
        due("told(0, 10), CIRCLES 20", x.told(0, 10), 540);
        due("told(1, 10), HOLD 24", x.told(1, 10), 48);
        x.now(35);
        x.rate(2, 2);
        x.revise();
        slots(x, 120, 150, 180);
        due("told(1, 10), HOLD 24, CIRCLES 25", x.told(1, 10), 2 * (24 + 75));
        due("told(2, 10), HOLD 78", x.told(2, 10), 78);
        about = "COST of a LINE: of all its FLIGHTS that are planned and not CANCELLED";
        due("line(0, 3)", x.line(0, 3), 540 + 198);
        x.flight(1, 0, 0, 9);
        x.cancel(2);
        due("line(1, 3)", x.line(1, 3), 0);
        about = "WAITS of a LINE: HOLD and CIRCLES of its FLIGHTS (planned, not CANCELLED), together";
        due("line(0, 2)", x.line(0, 2), 20 + 49);
        due("line(1, 2)", x.line(1, 2), 0);
    }

    private static void sixAtMost() {
        about = "BEST ORDER: FLIGHTS planned, not CANCELLED, not IN THE AIR; 6 at most by numbers, others stay";
        String seven = "a120/110;a120/10;a120/10;a120/10;a120/10;a120/10;a120/10*9";
        StormSlots x = of(seven);
        x.plan();
        x.now(9);
        due("the seventh stays", x.bestOrder(0, 6), 150);
        x.now(10);
        due("the first is IN THE AIR", x.bestOrder(0, 6), 125);
        due("and stays", x.bestOrder(0, 0), 120);
        due("COST", x.bestOrder(0, NONE), 9 * 5 + 10 + 15 + 20 + 25 + 30);
        StormSlots y = of(seven);
        y.plan();
        y.cancel(3);
        due("one is CANCELLED", y.bestOrder(0, 6), 120);
        due("it has none", y.bestOrder(0, 3), -2);
        StormSlots z = of("a120/10;a120/10;a120/10;a120/10;a120/10");
        z.plan();
        z.flight(0, 100, 10, 1);
        z.flight(0, 120, 10, 9);
        due("not planned", z.bestOrder(0, 5), -2);
        z.revise();
        due("the seventh stays", z.bestOrder(0, 6), 145);
        StormSlots lines = of("b120/10;b120/10;b120/10;b120/10;b120/10;b120/10;a120/10;a120/10*9");
        lines.plan();
        due("others of other LINES don't count", lines.bestOrder(0, 7), 150);
    }

    private static void eachAtEarliest() {
        about = "BEST ORDER: each at EARLIEST or later: least COST; of like ones the least row";
        due("a minute ahead of its ETA", slow("a120/30;a121/30*9").bestOrder(0, NONE), 171);
        due("at its ETA", slow("a120/30;a120/30*9").bestOrder(0, NONE), 20);
        for (int now = 60; now < 62; now++) {
            StormSlots x = slow("a120/20;a120/60*9");
            x.now(now);
            due("by NOW and TIME, at " + now, x.bestOrder(0, NONE), now == 60 ? 20 : 180);
        }
        StormSlots row = alike();
        row.exchange(0, 5);
        row.exchange(1, 3);
        for (int f = 0; f < 6; f++) due("bestOrder(0, " + f + ")", row.bestOrder(0, f), 120 + 20 * f);
        due("order(0)", row.order(0), 0);
        slots(row, 120, 140, 160, 180, 200, 220);
        due("each other's SLOTS alone", without(alike(), 0).bestOrder(0, 1), 140);
    }

    private static StormSlots without(StormSlots x, int f) {
        x.cancel(f);
        return x;
    }

    public static void main(String[] args) {
        slotsOfRates();
        lateSlots();
        bytes();
        lengthsOfTexts();
        ends();
        numbers();
        weights();
        blanks();
        faultsInOrder();
        earliest();
        inTheAir();
        togetherTheSlot();
        whoIsOffFirst();
        firstFreeSlot();
        alwaysOne();
        nothingLeft();
        landedStay();
        behindNow();
        inOrderOfEtaAndHold();
        thenTheOthers();
        nothingVacant();
        freeSlots();
        cancelled();
        exchanged();
        moved();
        filled();
        offers();
        dealsOfFour();
        dealsInTime();
        costs();
        sixAtMost();
        eachAtEarliest();
        end();
    }
}
