/** Both ends of each range: the last value that is still allowed, the first that is not, and the ends of all ints. */
public final class RangesTest extends Asked {
    private static int one(boolean yes) {
        return yes ? 1 : 0;
    }

    // ---- the ranges under 'Terms'

    private static void lines() {
        about = "LINES 0 to 4";
        ends("flight(l, 0, 0, 1)", l -> new StormSlots().flight(l, 0, 0, 1), 0, 0, 4, 0, NONE);
        ends("line(l, 0)", l -> six().line(l, 0), 0, 2, 4, 0, NONE);
        ends("bestOrder(l, NONE)", l -> six().bestOrder(l, NONE), 0, 57, 4, 0, NONE);
        ends("bestOrder(l, 1)", l -> six().bestOrder(l, 1), 0, 140, 4, -2, NONE);
        ends("order(l)", l -> six().order(l), 0, 0, 4, 0, NONE);
        ends("bestCancel(l, 0)", l -> six().bestCancel(l, 0), 0, 1, 4, -2, NONE);
        ends("helps(2, l)", l -> six().helps(2, l), 0, 0, 4, 0, CANNOT);
        ends("cancelAll(l)", l -> six().cancelAll(l), 0, 3, 4, 0, NONE);
        for (int l = 0; l < 5; l++) {
            StormSlots x = of((char) ('a' + l) + "1/1");
            due("told(0, 0) of line " + l, x.told(0, 0), l);
            due("letter(0) of line " + l, x.letter(0), 'a' + l);
        }
        StormSlots all = of("a60/0;b60/0;c60/0;d60/0;e60/0");
        all.plan();
        for (int k = 0; k < 5; k++) due("rank(" + k + ")", all.rank(k), 4 - k);
        due("rank(5)", all.rank(5), -2);
    }

    private static void flightsOfSix() {
        about = "FLIGHTS 0 to 19, as many as were told (six)";
        ends("told(f, 0)", f -> six().told(f, 0), 0, 0, 5, 2, NONE);
        ends("cancel(f)", f -> six().cancel(f), 0, 120, 5, 220, NONE);
        ends("exchange(f, 2)", f -> alike().exchange(f, 2), 0, 0, 5, 0, CANNOT);
        ends("exchange(2, f)", f -> alike().exchange(2, f), 0, 0, 5, 0, CANNOT);
        ends("move(f, 160)", f -> without(2).move(f, 160), 0, 120, 5, 220, NONE);
        ends("offer(f, 0, 2, 0)", f -> alike().offer(f, 0, 2, 0), 0, 0, 5, 0, NONE);
        ends("offer(2, 0, f, 0)", f -> alike().offer(2, 0, f, 0), 0, 0, 5, 0, NONE);
        // without 0 the other five wait 100 minutes less, without 5 nobody comes sooner
        ends("helps(f, 0)", f -> alike().helps(f, 0), 0, 100, 5, 0, CANNOT);
        ends("link(f, 2, 0)", f -> alike().link(f, 2, 0), 0, 0, 5, 0, NONE);
        ends("link(2, f, 0)", f -> alike().link(2, f, 0), 0, 0, 5, 0, NONE);
        ends("breaks(f, 999)", f -> alike().breaks(f, 999), 0, 0, 5, 0, CANNOT);
        due("bestOrder(0, 0)", alike().bestOrder(0, 0), 120);
        due("bestOrder(0, 5)", alike().bestOrder(0, 5), 220);
        for (int f : new int[] {6, -2, LEAST, MOST}) due("bestOrder(0, " + f + ")", alike().bestOrder(0, f), NONE);
    }

    private static StormSlots without(int f) {
        StormSlots x = alike();
        x.cancel(f);
        return x;
    }

    private static void flightsOfTwenty() {
        about = "FLIGHTS 0 to 19 (all twenty)";
        ends("told(f, 5)", f -> twenty().told(f, 5), 0, 120, 19, 215, NONE);
        ends("cancel(f)", f -> twenty().cancel(f), 0, 120, 19, 215, NONE);
        ends("exchange(f, 7)", f -> twenty().exchange(f, 7), 0, 0, 19, 0, CANNOT);
        ends("exchange(7, f)", f -> twenty().exchange(7, f), 0, 0, 19, 0, CANNOT);
        ends("offer(f, 0, 7, 0)", f -> twenty().offer(f, 0, 7, 0), 0, 0, 19, 0, NONE);
        ends("offer(7, 0, f, 0)", f -> twenty().offer(7, 0, f, 0), 0, 0, 19, 0, NONE);
        ends("link(f, 7, 0)", f -> twenty().link(f, 7, 0), 0, 0, 19, 0, NONE);
        ends("link(7, f, 0)", f -> twenty().link(7, f, 0), 0, 0, 19, 0, NONE);
        ends("helps(f, 0)", f -> twenty().helps(f, 0), 0, 95, 19, 0, CANNOT);
        ends("breaks(f, 999)", f -> twenty().breaks(f, 999), 0, 0, 19, 0, CANNOT);
        ends("move(f, 155)", f -> moved(f), 0, 120, 19, 215, NONE);
        due("bestOrder(0, 19)", twenty().bestOrder(0, 19), 215);
        due("bestOrder(0, 20)", twenty().bestOrder(0, 20), NONE);
        due("cancelAll(0)", twenty().cancelAll(0), (1 << 20) - 1);
        due("airborne(119)", twenty().airborne(119), 63);
        due("airborne(185)", twenty().airborne(185), 63 << 14);
        due("next(215)", twenty().next(215), 19);
        due("next(216)", twenty().next(216), -2);
    }

    private static int moved(int f) {
        StormSlots x = twenty();
        x.cancel(7);
        return x.move(f, 155);
    }

    private static void etas() {
        about = "ETA (the minute when it would land: 0 to 719)";
        ends("flight(0, eta, 0, 1)", eta -> new StormSlots().flight(0, eta, 0, 1), 0, 0, 719, 0, NONE);
        StormSlots x = of("a0/0;b719/0");
        due("told(0, 1)", x.told(0, 1), 0);
        due("told(1, 1)", x.told(1, 1), 719);
        due("\"a720/0\"", read(x, "a720/0"), -2001);
    }

    private static void times() {
        about = "TIME on the way (0 to 300)";
        ends("flight(0, 0, time, 1)", time -> new StormSlots().flight(0, 0, time, 1), 0, 0, 300, 0, NONE);
        StormSlots x = of("a0/0;b0/300");
        due("told(0, 2)", x.told(0, 2), 0);
        due("told(1, 2)", x.told(1, 2), 300);
        due("\"a0/301\"", read(x, "a0/301"), -2003);
    }

    private static void weights() {
        about = "WEIGHT (1 to 9)";
        ends("flight(0, 0, 0, weight)", w -> new StormSlots().flight(0, 0, 0, w), 1, 0, 9, 0, NONE);
        StormSlots x = of("a0/0*1;b0/0*9;c0/0");
        due("told(0, 3)", x.told(0, 3), 1);
        due("told(1, 3)", x.told(1, 3), 9);
        due("told(2, 3), 1 without", x.told(2, 3), 1);
        due("\"a0/0*0\"", read(x, "a0/0*0"), -2005);
        due("\"a0/0*10\"", read(x, "a0/0*10"), -1006);
    }

    private static void offBelowNought() {
        about = "OFF would be ETA less TIME (may be below 0)";
        StormSlots x = of("a0/300;b10/300");
        due("plan()", x.plan(), 0);
        slots(x, 0, 10);
        due("told(0, 4), NOW and TIME", x.told(0, 4), 300);
        due("told(0, 8)", x.told(0, 8), 1);
        due("cancel(0)", x.cancel(0), -3);
        due("airborne(0)", x.airborne(0), 2);
        due("airborne(9)", x.airborne(9), 2);
        due("airborne(10)", x.airborne(10), 0);
        due("crowded(0)", x.crowded(0), 1);
        due("crowded(1)", x.crowded(1), 0);
        x.link(0, 1, 0);
        x.link(1, 0, 300);
        due("linked(0, 4)", x.linked(0, 4), 290);
        due("linked(1, 4)", x.linked(1, 4), 610);
    }

    private static void hours() {
        about = "HOUR 0 to 11";
        ends("rate(h, 5)", h -> new StormSlots().rate(h, 5), 0, 12, 11, 12, NONE);
        ends("storm(0, h, 11, 3)", h -> new StormSlots().storm(0, h, 11, 3), 0, stormed(12), 11, stormed(1), NONE);
        ends("storm(0, 0, h, 3)", h -> new StormSlots().storm(0, 0, h, 3), 0, stormed(1), 11, stormed(12), NONE);
        ends("demand(h, 1)", h -> new StormSlots().demand(h, 1), 0, 12, 11, 12, NONE);
        ends("would(0, h, 11, 2)", h -> early().would(0, h, 11, 2), 0, 720, 11, 0, NONE);
        ends("would(0, 0, h, 2)", h -> early().would(0, 0, h, 2), 0, 60, 11, 720, NONE);
        ends("rateFor(h, 11, 0)", h -> early().rateFor(h, 11, 0), 0, 1, 11, 0, NONE);
        ends("rateFor(0, h, 0)", h -> early().rateFor(0, h, 0), 0, 1, 11, 1, NONE);
        ends("count(20 + h)", h -> new StormSlots().count(h), 20, 12, 31, 12, NONE);
        StormSlots x = new StormSlots();
        for (int h = 0; h < 12; h++) x.rate(h, h);
        for (int h = 0; h < 12; h++) {
            due("count(20 + " + h + ")", x.count(20 + h), h);
            due("demand(" + h + ", 1)", x.demand(h, 1), h);
        }
    }

    /** One flight at minute 0 that is off already. */
    private static StormSlots early() {
        return of("a0/0");
    }

    private static int stormed(int draws) {
        int x = 0;
        for (int k = 0; k < draws; k++) x = (25173 * x + 13849) % 65536;
        return x;
    }

    private static void hoursInOrder() {
        about = "no such ones (x at most y)";
        StormSlots x = of("a60/0");
        for (int h = 0; h < 12; h++) {
            due("storm(1, " + h + ", " + h + ", 12)", x.storm(1, h, h, 12), 39022);
            due("storm(1, " + h + ", " + (h - 1) + ", 12)", x.storm(1, h, h - 1, 12), NONE);
            due("would(12, h, h - 1, 0)", x.would(12, h, h - 1, 0), NONE);
            due("rateFor(h, h - 1, 1200)", x.rateFor(h, h - 1, 1200), NONE);
            due("rateFor(h, h, 1200)", x.rateFor(h, h, 1200), 0);
        }
    }

    private static void rates() {
        about = "RATE 0 to 12 (12 at first)";
        for (int h = 0; h < 12; h++) due("rate(" + h + ", 0) at first", new StormSlots().rate(h, 0), 12);
        ends("rate(0, r)", r -> new StormSlots().rate(0, r), 0, 12, 12, 12, NONE);
        ends("storm(0, 0, 0, most)", most -> new StormSlots().storm(0, 0, 0, most), 0, 13849, 12, 13849, NONE);
        ends("would(r, 0, 0, 2)", r -> early().would(r, 0, 0, 2), 0, 60, 12, 0, NONE);
        ends("ifCut(0, r)", r -> three().ifCut(0, r), 0, 0, 12, 0, NONE);
        StormSlots x = new StormSlots();
        due("rate(3, 0)", x.rate(3, 0), 12);
        due("rate(3, 12)", x.rate(3, 12), 0);
        due("rate(3, 12)", x.rate(3, 12), 12);
    }

    private static void now() {
        about = "NOW: a minute (0 to 719; 0 at first)";
        due("count(1)", new StormSlots().count(1), 0);
        ends("now(minute)", m -> one(new StormSlots().now(m)), 0, 1, 719, 1, 0);
        ends("now(minute) from 300 on", m -> one(at300().now(m)), 300, 1, 719, 1, 0);
        ends("ifCut(minute, 12)", m -> three().ifCut(m, 12), 0, 0, 719, 0, NONE);
        ends("ifCut(minute, 12) from 66 on", m -> at66().ifCut(m, 12), 66, 0, 719, 0, NONE);
    }

    private static StormSlots at300() {
        StormSlots x = new StormSlots();
        x.now(300);
        return x;
    }

    private static StormSlots at66() {
        StormSlots x = three();
        x.now(66);
        return x;
    }

    private static void minutes() {
        about = "minutes (0 to 1199)";
        ends("at(minute)", m -> new StormSlots().at(m), 0, -2, 1199, -4, NONE);
        ends("move(3, minute)", m -> without(2).move(3, m), 0, -2, 1199, -2, NONE);
        ends("offer(0, x, 1, 0)", x -> six().offer(0, x, 1, 0), 0, 0, 1199, 0, NONE);
        ends("offer(0, 0, 1, y)", y -> six().offer(0, 0, 1, y), 0, 0, 1199, 0, NONE);
        ends("airborne(minute)", m -> of("a0/0").airborne(m), 0, 0, 1199, 0, NONE);
        ends("next(minute)", m -> six().next(m), 0, 0, 1199, -2, NONE);
        ends("breaks(5, minute), EARLIEST or later", m -> six().breaks(5, m), 125, 0, 1199, 0, CANNOT);
        // who was told behind the plan waits on the ground though it would be off: its EARLIEST is 0
        StormSlots x = of("a0/0");
        x.plan();
        x.flight(0, 0, 0, 1);
        due("revise()", x.revise(), 1);
        slots(x, 0, 5);
        due("breaks(1, 0)", x.breaks(1, 0), 0);
        due("breaks(1, -1)", x.breaks(1, -1), CANNOT);
        x.cancel(1);
        due("vacant(0, 0)", x.vacant(0, 0), 5);
    }

    private static void gaps() {
        about = "gap minutes (0 to 300)";
        ends("link(0, 1, gap)", gap -> six().link(0, 1, gap), 0, 0, 300, 0, NONE);
        StormSlots x = six();
        x.link(0, 1, 0);
        x.link(0, 1, 300);
        due("linked(0, 2)", x.linked(0, 2), 0);
        due("linked(1, 2)", x.linked(1, 2), 300);
    }

    // ---- the ranges of the promises' own

    private static void counts() {
        about = "n: 1 to 160 bytes, 1 to 20 FLIGHTS; minutes 0 to 1200";
        ends("schedule(n)", n -> full().schedule(n), 1, -1001, 160, 1, NONE);
        ends("draws(0, n)", n -> new StormSlots().draws(0, n), 1, stormed(4), 20, stormed(80), NONE);
        ends("rateFor(0, 0, minutes)", m -> early().rateFor(0, 0, m), 0, 1, 1200, 0, NONE);
    }

    /** A tape of 320 bytes: a flight, then blanks. */
    private static StormSlots full() {
        StormSlots x = new StormSlots();
        feed(x, "a1/1" + " ".repeat(316));
        return x;
    }

    private static void whats() {
        about = "what";
        ends("told(0, what)", w -> six().told(0, w), 0, 0, 10, 0, NONE);
        ends("vacant(0, what)", w -> without(2).vacant(0, w), 0, 160, 1, 0, NONE);
        ends("offered(0, what)", w -> offering().offered(0, w), 0, 0, 3, 999, NONE);
        ends("bestDeal(what)", w -> offering().bestDeal(w), 0, 0, 2, 560, CANNOT);
        ends("line(1, what)", w -> six().line(1, w), 0, 2, 6, 0, NONE);
        ends("bestCancel(2, what)", w -> six().bestCancel(2, w), 0, 5, 1, 76, NONE);
        ends("linked(0, what)", w -> linked().linked(0, w), 0, 2, 4, 0, NONE);
        ends("byRule(0, what)", w -> six().byRule(0, w), 0, 646, 3, 7600, NONE);
        ends("byRule(rule, 0)", r -> six().byRule(r, 0), 0, 646, 2, 706, NONE);
        ends("demand(2, what)", w -> six().demand(2, w), 0, 6, 2, 3, NONE);
        ends("crowded(what)", w -> six().crowded(w), 0, 2, 1, 110, NONE);
        ends("would(12, 2, 3, what)", w -> six().would(12, 2, 3, w), 0, 60, 2, 145, NONE);
        ends("count(what)", w -> linked().count(w), 0, 6, 12, 0, NONE);
    }

    private static StormSlots linked() {
        StormSlots x = six();
        x.link(2, 5, 30);
        return x;
    }

    private static StormSlots offering() {
        StormSlots x = market();
        x.offer(0, 999, 2, 999);
        x.offer(1, 999, 3, 999);
        return x;
    }

    private static void places() {
        about = "k from 0";
        due("letter(NONE)", six().letter(NONE), 53);
        due("letter(0)", six().letter(0), 'a');
        due("letter(52)", six().letter(52), '4');
        due("letter(53)", six().letter(53), -2);
        due("letter(MOST)", six().letter(MOST), -2);
        due("letter(-2)", six().letter(-2), NONE);
        due("letter(LEAST)", six().letter(LEAST), NONE);
        StormSlots x = six();
        x.cancel(1);
        x.cancel(4);
        int[][] slot = {{0, 0}, {125, 715}, {221, 1195}, {222, -2}, {MOST, -2}, {-1, NONE}, {LEAST, NONE}};
        for (int[] s : slot) due("slot(" + s[0] + ")", x.slot(s[0]), s[1]);
        int[][] vacant = {{0, 140}, {1, 200}, {2, -2}, {MOST, -2}, {-1, NONE}, {LEAST, NONE}};
        for (int[] v : vacant) due("vacant(" + v[0] + ", 0)", x.vacant(v[0], 0), v[1]);
        int[][] rank = {{0, 2}, {2, 0}, {3, -2}, {MOST, -2}, {-1, NONE}, {LEAST, NONE}};
        for (int[] r : rank) due("rank(" + r[0] + ")", x.rank(r[0]), r[1]);
    }

    private static void numbersOfOffers() {
        about = "AN OFFER (0 to 7)";
        ends("withdraw(i)", i -> one(eightOffers().withdraw(i)), 0, 1, 7, 1, 0);
        ends("offered(i, 1)", i -> eightOffers().offered(i, 1), 0, 990, 7, 997, NONE);
        // 7 is of the same LINE as 1, and 0 is 0 itself
        ends("deal(i, 1)", i -> eightOffers().deal(i, 1), 0, 560, 6, 560, CANNOT);
        ends("deal(0, j)", j -> eightOffers().deal(0, j), 1, 560, 7, 560, CANNOT);
        ends("round(i, 1, 2)", i -> eightTrades().round(i, 1, 2), 0, 420, 0, 420, CANNOT);
        ends("round(0, j, 2)", j -> eightTrades().round(0, j, 2), 1, 420, 1, 420, CANNOT);
        ends("round(0, 1, k)", k -> eightTrades().round(0, 1, k), 2, 420, 7, 420, CANNOT);
    }

    /** Of the lines in turn: 0, 2, 4, 6 of line 0 and 1, 3, 5, 7 of line 1, all of which can be dealt. */
    private static StormSlots eightOffers() {
        StormSlots x = market();
        for (int i = 0; i < 8; i++) x.offer(i % 2, 990 + i, 2 + i % 2, 999);
        return x;
    }

    /** One offer each of lines 0, 1 and of line 2 six more. */
    private static StormSlots eightTrades() {
        StormSlots x = ring();
        for (int i = 0; i < 8; i++) x.offer(Math.min(i, 2), 999, Math.min(i, 2) + 3, 999);
        return x;
    }

    private static void numbersOfLinks() {
        about = "A LINK (0 to 11)";
        ends("linked(i, 2)", i -> twelveLinks().linked(i, 2), 0, 0, 11, 11, NONE);
        ends("linked(i, 2) of one", i -> linked().linked(i, 2), 0, 30, 0, 30, NONE);
    }

    private static StormSlots twelveLinks() {
        StormSlots x = six();
        for (int i = 0; i < 12; i++) x.link(0, 1, i);
        return x;
    }

    public static void main(String[] args) {
        lines();
        flightsOfSix();
        flightsOfTwenty();
        etas();
        times();
        weights();
        offBelowNought();
        hours();
        hoursInOrder();
        rates();
        now();
        minutes();
        gaps();
        counts();
        whats();
        places();
        numbersOfOffers();
        numbersOfLinks();
        end();
    }
}
