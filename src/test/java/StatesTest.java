/** What is told when there is nothing yet, nothing any more, or no more room. */
public final class StatesTest extends Asked {
    private static void noFlights() {
        about = "promise 1: no FLIGHTS; nothing is planned";
        StormSlots x = new StormSlots();
        int[] counts = {0, 0, 0, 0, 0, 0, 0, 0, 0, 0, 240, 0, 0};
        for (int w = 0; w < counts.length; w++) due("count(" + w + ")", x.count(w), counts[w]);
        for (int h = 0; h < 12; h++) {
            due("count(20 + " + h + ")", x.count(20 + h), 12);
            due("demand(" + h + ", 0)", x.demand(h, 0), 0);
            due("demand(" + h + ", 1)", x.demand(h, 1), 12);
            due("demand(" + h + ", 2)", x.demand(h, 2), 0);
        }
        due("letter(NONE)", x.letter(NONE), 0);
        due("letter(0)", x.letter(0), -2);
        due("told(0, 0)", x.told(0, 0), NONE);
        due("plan()", x.plan(), -2);
        due("count(2)", x.count(2), 0);
        due("cancel(0)", x.cancel(0), NONE);
        due("move(0, 0)", x.move(0, 0), NONE);
        due("offer", x.offer(0, 0, 1, 0), NONE);
        due("link(0, 1, 0)", x.link(0, 1, 0), NONE);
        due("bestOrder(0, 0)", x.bestOrder(0, 0), NONE);
        for (int l = 0; l < 5; l++) due("line(" + l + ", 0)", x.line(l, 0), 0);
        due("byRule(2, 3)", x.byRule(2, 3), -2);
        due("would(12, 0, 11, 2)", x.would(12, 0, 11, 2), -2);
        due("rateFor(0, 11, 1200)", x.rateFor(0, 11, 1200), -2);
        nothingPlanned(x);
    }

    private static void toldOnly() {
        about = "FLIGHTS are told, nothing is planned";
        StormSlots x = of("a120/30;a120/30*2;b120/30");
        due("count(0)", x.count(0), 3);
        for (int w = 2; w < 8; w++) due("count(" + w + ")", x.count(w), 0);
        for (int f = 0; f < 3; f++) {
            due("told(" + f + ", 4)", x.told(f, 4), 120);
            for (int w : new int[] {5, 6, 7, 10}) due("told(" + f + ", " + w + ")", x.told(f, w), -2);
            due("told(" + f + ", 8)", x.told(f, 8), 0);
            due("told(" + f + ", 9)", x.told(f, 9), 0);
            due("cancel(" + f + ")", x.cancel(f), -2);
            due("move(" + f + ", 120)", x.move(f, 120), -2);
        }
        due("at(120)", x.at(120), -2);
        due("offer", x.offer(0, 0, 1, 0), -2);
        due("line(0, 0)", x.line(0, 0), 2);
        for (int w = 1; w < 7; w++) due("line(0, " + w + ")", x.line(0, w), 0);
        due("bestOrder(0, 0)", x.bestOrder(0, 0), -2);
        due("demand(2, 0)", x.demand(2, 0), 3);
        due("demand(2, 2)", x.demand(2, 2), 0);
        due("link(0, 2, 0)", x.link(0, 2, 0), 0);
        due("linked(0, 3)", x.linked(0, 3), 1);
        due("linked(0, 4)", x.linked(0, 4), -2);
        due("count(12)", x.count(12), 1);
        // as if it were planned: slots 120, 125, 130
        due("byRule(0, 0)", x.byRule(0, 0), 20);
        due("byRule(1, 0)", x.byRule(1, 0), 15);
        due("would(12, 0, 0, 0)", x.would(12, 0, 0, 0), 15);
        due("rateFor(2, 2, 10)", x.rateFor(2, 2, 10), 11);
        nothingPlanned(x);
        x.now(719);
        due("told(0, 8), not planned", x.told(0, 8), 0);
        nothingPlanned(x);
    }

    private static void nothingPlanned(StormSlots x) {
        due("revise()", x.revise(), -2);
        due("exchange(0, 1)", x.exchange(0, 1), CANNOT);
        due("fill()", x.fill(), 0);
        due("vacant(0, 0)", x.vacant(0, 0), -2);
        due("withdraw(0)", x.withdraw(0), false);
        due("offered(0, 0)", x.offered(0, 0), NONE);
        due("deal(0, 1)", x.deal(0, 1), CANNOT);
        for (int w = 0; w < 3; w++) due("bestDeal(" + w + ")", x.bestDeal(w), CANNOT);
        due("round(0, 1, 2)", x.round(0, 1, 2), CANNOT);
        due("bestOrder(0, NONE)", x.bestOrder(0, NONE), 0);
        for (int l = 0; l < 5; l++) {
            due("order(" + l + ")", x.order(l), 0);
            due("cancelAll(" + l + ")", x.cancelAll(l), 0);
            due("bestCancel(" + l + ", 0)", x.bestCancel(l, 0), -2);
            due("bestCancel(" + l + ", 1)", x.bestCancel(l, 1), -2);
            due("helps(0, " + l + ")", x.helps(0, l), CANNOT);
        }
        due("rank(0)", x.rank(0), -2);
        due("unfair()", x.unfair(), -2);
        due("breaks(0, 999)", x.breaks(0, 999), CANNOT);
        due("crowded(0)", x.crowded(0), 0);
        due("crowded(1)", x.crowded(1), 0);
        due("ifCut(719, 0)", x.ifCut(719, 0), -2);
        due("airborne(100)", x.airborne(100), 0);
        due("next(0)", x.next(0), -2);
    }

    private static void toldAgain() {
        about = "promises 3 and 5: in place of all FLIGHTS (nothing is planned, no OFFERS, no LINKS then)";
        for (int way = 0; way < 2; way++) {
            StormSlots x = six();
            x.link(0, 1, 5);
            x.offer(4, 300, 5, 300);
            x.cancel(2);
            x.now(17);
            x.keep();
            if (way == 0) due("schedule", read(x, "c120/30"), 1); else due("draws(1, 1)", x.draws(1, 1), 45005);
            int[] counts = {1, 17, 0, 0, 0, 0, 0, 0, 0, 1, 222, 0, 0};
            for (int w = 0; w < counts.length; w++) due("count(" + w + ")", x.count(w), counts[w]);
            due("count(22), RATES stay", x.count(22), 3);
            due("told(1, 0)", x.told(1, 0), NONE);
            nothingPlanned(x);
            due("link", x.flight(0, 1, 1, 1) + x.link(0, 1, 9), 1);
            due("plan()", x.plan() >= 0, true);
            due("undo()", x.undo(), 0);
            due("count(0), as it was kept", x.count(0), 6);
        }
    }

    private static void allCancelled() {
        about = "all FLIGHTS are CANCELLED";
        StormSlots x = six();
        int bits = x.cancelAll(0) | x.cancelAll(1) | x.cancelAll(2);
        due("cancelAll", bits, 63);
        due("count(2), it is planned still", x.count(2), 1);
        due("count(5)", x.count(5), 6);
        due("count(6)", x.count(6), 6);
        due("fill()", x.fill(), 0);
        due("rank(0)", x.rank(0), -2);
        due("unfair()", x.unfair(), -2);
        due("next(0)", x.next(0), -2);
        due("crowded(0)", x.crowded(0), 0);
        due("bestOrder(0, NONE)", x.bestOrder(0, NONE), 0);
        due("order(0)", x.order(0), 0);
        due("bestCancel(0, 0)", x.bestCancel(0, 0), -2);
        due("ifCut(719, 0)", x.ifCut(719, 0), 0);
        due("revise()", x.revise(), 0);
        due("count(5)", x.count(5), 6);
        due("count(6)", x.count(6), 0);
        due("plan()", x.plan(), 5);
        due("count(5)", x.count(5), 0);
    }

    private static void fullTape() {
        about = "promise 2: NONE if that would be more than 320";
        StormSlots x = new StormSlots();
        for (int k = 1; k <= 15; k++) due("feed", x.feed(0, 0, 0, 0, 0), 20 * k);
        due("feed: 320", x.feed(0, 0, 0, 0, 0), 320);
        due("feed: more", x.feed(0, 0, 0, 0, 0), NONE);
        due("count(8)", x.count(8), 320);
        due("schedule(161)", x.schedule(161), NONE);
        due("count(8)", x.count(8), 320);
        due("schedule(160)", x.schedule(160), -1000);
        due("count(8), empty then", x.count(8), 0);
        due("schedule(1), it has not so many", x.schedule(1), NONE);
        due("feed", x.feed(0, 0, 0, 0, 0), 20);
        due("schedule(21), it has not so many", x.schedule(21), NONE);
        due("count(8), the tape stays", x.count(8), 20);
        due("schedule(20)", x.schedule(20), -1000);
        about = "promise 2: the highest of each int first";
        x.feed(0x61372F38, 0x2A393B62, 0x31302F31, 0x313B6537, 0x31392F30);
        due("schedule(20)", x.schedule(20), 3);
        String text = "a7/8*9;b10/11;e719/0";
        for (int k = 0; k < text.length(); k++) due("letter(" + k + ")", x.letter(k), text.charAt(k));
        for (int high : new int[] {0x80, 0xFF}) {
            x.feed(high << 24 | 0x61312F, 0x31000000, 0, 0, 0);
            due("a byte above 127", x.schedule(5), -1000);
        }
    }

    private static void twentyFlights() {
        about = "promise 4: -2: there are 20";
        StormSlots x = new StormSlots();
        for (int f = 0; f < 20; f++) due("flight", x.flight(f % 5, 36 * f, 15 * f, 1 + f % 9), f);
        due("a 21st", x.flight(0, 0, 0, 1), -2);
        for (int f = 0; f < 20; f++) {
            due("told(" + f + ", 0)", x.told(f, 0), f % 5);
            due("told(" + f + ", 1)", x.told(f, 1), 36 * f);
            due("told(" + f + ", 2)", x.told(f, 2), 15 * f);
            due("told(" + f + ", 3)", x.told(f, 3), 1 + f % 9);
        }
        due("schedule: room again", read(x, "a1/1"), 1);
        due("flight", x.flight(0, 0, 0, 1), 1);
        due("draws(3, 20)", x.draws(3, 20) >= 0, true);
        due("a 21st", x.flight(0, 0, 0, 1), -2);
        about = "promise 6: the longest text";
        StormSlots y = new StormSlots();
        for (int f = 0; f < 20; f++) y.flight(4, 719, 300, 9);
        due("letter(NONE)", y.letter(NONE), 219);
        String text = "e719/300*9;".repeat(20);
        for (int k = 0; k < 219; k++) due("letter(" + k + ")", y.letter(k), text.charAt(k));
        due("letter(219)", y.letter(219), -2);
    }

    private static void twentyVacant() {
        about = "promise 19: twenty VACANT SLOTS";
        StormSlots x = twenty();
        for (int f = 19; f >= 0; f--) due("cancel(" + f + ")", x.cancel(f), 120 + 5 * f);
        due("count(6)", x.count(6), 20);
        due("line(0, 5)", x.line(0, 5), 20);
        for (int k = 0; k < 20; k++) {
            due("vacant(" + k + ", 0)", x.vacant(k, 0), 120 + 5 * k);
            due("vacant(" + k + ", 1)", x.vacant(k, 1), 0);
        }
        due("vacant(20, 0)", x.vacant(20, 0), -2);
        due("revise()", x.revise(), 0);
        due("count(6)", x.count(6), 0);
        about = "promise 18: nineteen go up";
        StormSlots y = twenty();
        y.cancel(0);
        due("fill()", y.fill(), 19);
        due("vacant(0, 0)", y.vacant(0, 0), 215);
        due("told(19, 5)", y.told(19, 5), 210);
    }

    private static void eightOffers() {
        about = "promise 20: -3: there are 8";
        StormSlots x = alike();
        for (int i = 0; i < 8; i++) due("offer", x.offer(i % 5, i, 5, i), i);
        due("a ninth", x.offer(0, 0, 1, 0), -3);
        due("count(7)", x.count(7), 8);
        for (int i = 0; i < 8; i++) {
            due("withdraw(" + i + ")", x.withdraw(i), true);
            due("count(7)", x.count(7), 7);
            due("the free one is given", x.offer(4, 90 + i, 3, i), i);
            due("a ninth", x.offer(0, 0, 1, 0), -3);
            int[] want = {4, 90 + i, 3, i};
            for (int w = 0; w < 4; w++) due("offered(" + i + ", " + w + ")", x.offered(i, w), want[w]);
        }
        for (int i = 7; i >= 0; i--) due("withdraw(" + i + ")", x.withdraw(i), true);
        due("count(7)", x.count(7), 0);
        due("withdraw(0)", x.withdraw(0), false);
        due("the lowest of all", x.offer(0, 0, 1, 0), 0);
    }

    private static void twelveLinks() {
        about = "promise 32: -2: there are 12";
        StormSlots x = six();
        for (int i = 0; i < 12; i++) due("link", x.link(i % 6, (i + 1) % 6, 20 * i), i);
        due("a 13th", x.link(0, 1, 0), -2);
        due("count(11)", x.count(11), 12);
        for (int i = 0; i < 12; i++) {
            due("linked(" + i + ", 0)", x.linked(i, 0), i % 6);
            due("linked(" + i + ", 1)", x.linked(i, 1), (i + 1) % 6);
            due("linked(" + i + ", 2)", x.linked(i, 2), 20 * i);
        }
        due("revise()", x.revise(), 0);
        due("a 13th", x.link(0, 1, 0), -2);
        read(x, "a1/1;b1/1");
        due("no LINKS then", x.count(11), 0);
        due("link", x.link(0, 1, 0), 0);
        about = "promise 32: BROKEN is it if not gap minutes or more";
        StormSlots y = six();
        int[][] want = {{0, 5, 69, 0, 0}, {0, 5, 70, 0, 0}, {0, 5, 71, 1, 1}, {0, 5, 300, 1, 230}, {5, 0, 0, 1, 130}, {5, 0, 300, 1, 430}};
        for (int i = 0; i < want.length; i++) {
            due("link", y.link(want[i][0], want[i][1], want[i][2]), i);
            due("linked(" + i + ", 3)", y.linked(i, 3), want[i][3]);
            due("linked(" + i + ", 4)", y.linked(i, 4), want[i][4]);
        }
        due("count(12)", y.count(12), 4);
        for (int gone : new int[] {0, 5}) {
            StormSlots z = six();
            z.link(0, 5, 0);
            z.cancel(gone);
            due("one is CANCELLED", z.linked(0, 3), 1);
            due("one is CANCELLED", z.linked(0, 4), -2);
            due("count(12)", z.count(12), 1);
        }
        for (int way = 0; way < 2; way++) {
            StormSlots z = six();
            z.flight(0, 700, 0, 1);
            due("link", way == 0 ? z.link(0, 6, 0) : z.link(6, 0, 0), 0);
            due("one is not planned", z.linked(0, 3), 1);
            due("one is not planned", z.linked(0, 4), -2);
        }
    }

    private static void eightStates() {
        about = "promises 46 and 47: 8 states";
        StormSlots x = six();
        due("undo()", x.undo(), NONE);
        for (int k = 1; k <= 8; k++) {
            due("keep()", x.keep(), k);
            x.now(10 * k);
            x.rate(0, k);
            if (k <= 6) x.cancel(6 - k);
        }
        due("keep()", x.keep(), NONE);
        due("count(1)", x.count(1), 80);
        for (int k = 8; k >= 1; k--) {
            due("undo()", x.undo(), k - 1);
            due("count(9)", x.count(9), k - 1);
            due("count(1)", x.count(1), 10 * (k - 1));
            due("count(20)", x.count(20), k == 1 ? 12 : k - 1);
            due("count(5)", x.count(5), Math.min(6, k - 1));
        }
        due("undo()", x.undo(), NONE);
        slots(x, 120, 140, 160, 180, 200, 220);
        due("keep() again", x.keep(), 1);
        about = "promise 46: all but the tape is kept";
        x.feed(1, 2, 3, 4, 5);
        due("undo()", x.undo(), 0);
        due("count(8)", x.count(8), 20);
        x.keep();
        x.schedule(1);
        due("undo()", x.undo(), 0);
        due("count(8)", x.count(8), 0);
        about = "promise 47: all is as it was kept last, NOW too";
        x.keep();
        x.now(719);
        x.undo();
        due("count(1)", x.count(1), 0);
        due("now(1)", x.now(1), true);
        about = "promise 46: a new object's state is kept, too";
        StormSlots y = new StormSlots();
        due("keep()", y.keep(), 1);
        y.draws(1, 20);
        y.plan();
        due("undo()", y.undo(), 0);
        due("count(0)", y.count(0), 0);
        due("count(2)", y.count(2), 0);
        due("plan()", y.plan(), -2);
    }

    private static void seeds() {
        about = "promise 8: X is the lowest 16 bits of the seed at first";
        for (int seed : new int[] {0, 1, 65535, 40000}) {
            int once = (25173 * seed + 13849) % 65536;
            for (int same : new int[] {seed, seed + 65536, seed - 65536, seed | 0x7FFF0000, seed | 0x80000000}) {
                due("storm(" + same + ", 3, 3, 12)", new StormSlots().storm(same, 3, 3, 12), once);
                StormSlots x = new StormSlots();
                x.storm(same, 3, 3, 12);
                due("count(23)", x.count(23), once / 4 % 13);
            }
        }
        about = "promise 8: of HOURS x to y each, one behind the other";
        StormSlots x = new StormSlots();
        int seed = 77;
        x.storm(77, 0, 11, 12);
        for (int h = 0; h < 12; h++) {
            seed = (25173 * seed + 13849) % 65536;
            due("count(20 + " + h + ")", x.count(20 + h), seed / 4 % 13);
        }
        x.storm(5, 4, 6, 0);
        for (int h = 4; h < 7; h++) due("most 0", x.count(20 + h), 0);
        due("HOUR 3 stays", x.count(23) == 0 && x.count(27) == 0, false);
    }

    public static void main(String[] args) {
        noFlights();
        toldOnly();
        toldAgain();
        allCancelled();
        fullTape();
        twentyFlights();
        twentyVacant();
        eightOffers();
        twelveLinks();
        eightStates();
        seeds();
        end();
    }
}
