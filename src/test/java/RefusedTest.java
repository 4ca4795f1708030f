import java.util.ArrayList;
import java.util.LinkedHashMap;
import java.util.List;
import java.util.Map;
import java.util.function.Supplier;
import java.util.function.ToIntFunction;

/**
 * "A call that is refused (NONE, -2 to -9, false) changes nothing but the tape, where it is told. Of several reasons
 * NONE comes first, then -2, and so on." Each refusal of each promise, on objects where there is something to change;
 * and what a call that is not refused leaves as it is.
 */
public final class RefusedTest extends Asked {
    private static final String TEXT = "e7/7*7;d8/8";

    // ---- all that an object tells, so that two of them can be laid side by side

    private static Map<String, Integer> print(StormSlots x) {
        Map<String, Integer> all = new LinkedHashMap<>();
        for (int w = 0; w < 32; w++) if (w < 13 || w > 19) all.put("count(" + w + ")", x.count(w));
        // an object is good for 512 calls: none is asked twice
        int flights = all.get("count(0)");
        int letters = x.letter(NONE);
        for (int f = 0; f < flights; f++)
            for (int w = 5; w < 10; w++) all.put("told(" + f + ", " + w + ")", x.told(f, w));
        for (int k = 0; k < letters; k++) all.put("letter(" + k + ")", x.letter(k));
        for (int k = 0; k < all.get("count(6)") && k < 4; k++)
            for (int w = 0; w < 2; w++) all.put("vacant(" + k + ", " + w + ")", x.vacant(k, w));
        for (int i = 0; i < 8; i++)
            for (int w = 0; w < 4; w++) all.put("offered(" + i + ", " + w + ")", x.offered(i, w));
        for (int i = 0; i < all.get("count(11)"); i++)
            for (int w = 0; w < 3; w++) all.put("linked(" + i + ", " + w + ")", x.linked(i, w));
        return all;
    }

    private static String unlike(Map<String, Integer> one, Map<String, Integer> other) {
        List<String> keys = new ArrayList<>(one.keySet());
        for (String k : other.keySet()) if (!one.containsKey(k)) keys.add(k);
        List<String> found = new ArrayList<>();
        for (String k : keys) if (!one.getOrDefault(k, LEAST).equals(other.getOrDefault(k, LEAST))) found.add(k);
        return String.join(" ", found);
    }

    /** What is told otherwise by an object on which a call was made, its kept states and its tape left aside. */
    private static String changed(Supplier<StormSlots> begin, ToIntFunction<StormSlots> call) {
        StormSlots plain = begin.get();
        StormSlots called = begin.get();
        call.applyAsInt(called);
        return unlike(print(plain), print(called));
    }

    /** Likewise of each state that is kept, and of the tape. */
    private static String changedBelow(Supplier<StormSlots> begin, ToIntFunction<StormSlots> call) {
        StringBuilder all = new StringBuilder();
        for (int depth = begin.get().count(9); depth > 0; depth--) {
            StormSlots plain = begin.get();
            StormSlots called = begin.get();
            call.applyAsInt(called);
            for (int k = 0; k < depth; k++) due("undo()", called.undo(), plain.undo());
            all.append(unlike(print(plain), print(called)));
        }
        StormSlots plain = begin.get();
        StormSlots called = begin.get();
        call.applyAsInt(called);
        due("the tape's text", called.schedule(TEXT.length()), plain.schedule(TEXT.length()));
        return all.append(unlike(print(plain), print(called))).toString();
    }

    private static void refused(String name, Supplier<StormSlots> begin, ToIntFunction<StormSlots> call, int want) {
        due(name, call.applyAsInt(begin.get()), want);
        due("what " + name + " changed", changed(begin, call), "");
        due("what " + name + " changed of what is kept", changedBelow(begin, call), "");
    }

    private static void changes(String name, Supplier<StormSlots> begin, ToIntFunction<StormSlots> call, String want) {
        due("what " + name + " changed", changed(begin, call), want);
    }

    private static int one(boolean yes) {
        return yes ? 1 : 0;
    }

    // ---- objects with something of everything

    /**
     * At 121: 0 of line 0 has landed, 1 is in the air, 2 of line 1 is cancelled (160 is vacant), 3 to 7 are on the ground
     * with slots 180, 200, 220, 240, 245, and 8 was told too late to be planned. Three offers, of lines 2, 1, 2; two links;
     * two states are kept; a text is on the tape.
     */
    private static StormSlots busy() {
        StormSlots x = slow("a120/30;a121/30*3;b122/30*2;b123/30;c124/30;c125/30*4;b126/30;d127/30");
        x.keep();
        x.link(0, 5, 70);
        x.link(5, 6, 99);
        x.now(100);
        x.cancel(2);
        x.offer(4, 300, 5, 200);
        x.keep();
        x.offer(3, 300, 6, 180);
        x.offer(5, 900, 4, 100);
        x.now(121);
        x.flight(3, 130, 20, 2);
        feed(x, TEXT);
        return x;
    }

    /** Twenty flights, planned, eight offers, twelve links, eight states. */
    private static StormSlots full() {
        StormSlots x = twenty();
        for (int i = 0; i < 8; i++) x.offer(i, 300, i + 1, 300);
        for (int i = 0; i < 12; i++) x.link(i, i + 1, i);
        for (int k = 0; k < 8; k++) x.keep();
        return x;
    }

    private static StormSlots told() {
        return of("a120/30;a120/30*2;b120/30");
    }

    // ---- each refusal

    private static void ofFlights() {
        about = "promise 2: NONE if that would be more than 320";
        refused("feed", RefusedTest::fullTape, x -> x.feed(1, 2, 3, 4, 5), NONE);
        about = "promise 3: NONE (the tape stays)";
        refused("schedule(0)", RefusedTest::busy, x -> x.schedule(0), NONE);
        refused("schedule(-1)", RefusedTest::busy, x -> x.schedule(-1), NONE);
        refused("schedule(21)", RefusedTest::busy, x -> x.schedule(21), NONE);
        refused("schedule(161)", RefusedTest::fullTape, x -> x.schedule(161), NONE);
        refused("schedule(1) without a tape", RefusedTest::full, x -> x.schedule(1), NONE);
        about = "promise 3: a FAULT (all stays)";
        changes("schedule(3)", RefusedTest::busy, x -> x.schedule(3), "count(8)");
        changes("schedule(20)", RefusedTest::busy, x -> x.schedule(20), "count(8)");
        changes("a text with a good beginning", RefusedTest::busy, x -> readInstead(x, "a1/1;b2/2;c3/3x"), "");
        about = "promise 4";
        refused("flight, no such LINE", RefusedTest::busy, x -> x.flight(5, 0, 0, 1), NONE);
        refused("flight, no such ETA", RefusedTest::busy, x -> x.flight(0, 720, 0, 1), NONE);
        refused("flight, no such TIME", RefusedTest::busy, x -> x.flight(0, 0, 301, 1), NONE);
        refused("flight, no such WEIGHT", RefusedTest::busy, x -> x.flight(0, 0, 0, 10), NONE);
        refused("a 21st", RefusedTest::full, x -> x.flight(0, 0, 0, 1), -2);
        about = "promise 5";
        refused("draws(1, 0)", RefusedTest::busy, x -> x.draws(1, 0), NONE);
        refused("draws(1, 21)", RefusedTest::busy, x -> x.draws(1, 21), NONE);
        about = "promises 6 to 12";
        refused("letter(-2)", RefusedTest::busy, x -> x.letter(-2), NONE);
        refused("letter(999)", RefusedTest::busy, x -> x.letter(999), -2);
        refused("rate(12, 1)", RefusedTest::busy, x -> x.rate(12, 1), NONE);
        refused("rate(1, 13)", RefusedTest::busy, x -> x.rate(1, 13), NONE);
        refused("storm, no such HOUR", RefusedTest::busy, x -> x.storm(1, 0, 12, 3), NONE);
        refused("storm, x above y", RefusedTest::busy, x -> x.storm(1, 4, 3, 3), NONE);
        refused("storm, no such most", RefusedTest::busy, x -> x.storm(1, 0, 11, 13), NONE);
        refused("now(120), it would go back", RefusedTest::busy, x -> one(x.now(120)), 0);
        refused("now(720)", RefusedTest::busy, x -> one(x.now(720)), 0);
        refused("told(9, 0)", RefusedTest::busy, x -> x.told(9, 0), NONE);
        refused("told(8, 5), not planned", RefusedTest::busy, x -> x.told(8, 5), -2);
        refused("told(2, 5), CANCELLED", RefusedTest::busy, x -> x.told(2, 5), -2);
        refused("slot(-1)", RefusedTest::busy, x -> x.slot(-1), NONE);
        refused("slot(999)", RefusedTest::busy, x -> x.slot(999), -2);
        refused("at(1200)", RefusedTest::busy, x -> x.at(1200), NONE);
    }

    private static StormSlots fullTape() {
        StormSlots x = six();
        x.keep();
        for (int k = 0; k < 16; k++) feed(x, TEXT);
        return x;
    }

    private static int readInstead(StormSlots x, String text) {
        x.schedule(1);
        int fault = read(x, text);
        feed(x, TEXT);
        return fault;
    }

    private static void ofThePlan() {
        about = "promises 13 and 14";
        refused("plan(), no FLIGHTS", StormSlots::new, StormSlots::plan, -2);
        refused("revise(), nothing is planned", RefusedTest::told, StormSlots::revise, -2);
        refused("revise(), no FLIGHTS", StormSlots::new, StormSlots::revise, -2);
        about = "promise 15";
        refused("cancel(-1)", RefusedTest::busy, x -> x.cancel(-1), NONE);
        refused("cancel(9)", RefusedTest::busy, x -> x.cancel(9), NONE);
        refused("cancel(8), not planned", RefusedTest::busy, x -> x.cancel(8), -2);
        refused("cancel(2), CANCELLED already", RefusedTest::busy, x -> x.cancel(2), -2);
        refused("cancel(1), IN THE AIR", RefusedTest::busy, x -> x.cancel(1), -3);
        refused("cancel(0), landed", RefusedTest::busy, x -> x.cancel(0), -3);
        refused("cancel(0), nothing is planned", RefusedTest::told, x -> x.cancel(0), -2);
        about = "promise 16";
        int[][] pairs = {{3, 3}, {3, 9}, {-1, 3}, {3, 4}, {0, 1}, {2, 3}, {3, 2}, {7, 8}, {8, 7}};
        for (int[] p : pairs) refused("exchange(" + p[0] + ", " + p[1] + ")", RefusedTest::busy, x -> x.exchange(p[0], p[1]), CANNOT);
        refused("exchange(0, 1), nothing is planned", RefusedTest::told, x -> x.exchange(0, 1), CANNOT);
        refused("exchange(0, 1), too early", Asked::six, x -> x.exchange(0, 1), CANNOT);
        about = "promise 17";
        int[][] moves = {{9, 160, NONE}, {-1, 160, NONE}, {3, 1200, NONE}, {3, -1, NONE}, {2, 160, -2}, {8, 160, -2}, {4, 160, -2},
            {3, 180, -2}, {3, 240, -2}, {3, 250, -2}, {1, 160, -2}, {0, 160, -2}};
        for (int[] m : moves) refused("move(" + m[0] + ", " + m[1] + ")", RefusedTest::busy, x -> x.move(m[0], m[1]), m[2]);
        about = "promises 18 and 19";
        refused("fill(), nothing is VACANT", Asked::six, StormSlots::fill, 0);
        refused("vacant(1, 0)", RefusedTest::busy, x -> x.vacant(1, 0), -2);
        refused("vacant(-1, 0)", RefusedTest::busy, x -> x.vacant(-1, 0), NONE);
        refused("vacant(0, 2)", RefusedTest::busy, x -> x.vacant(0, 2), NONE);
    }

    private static void ofDeals() {
        about = "promise 20";
        int[][] offers = {{3, 0, 3, 0, NONE}, {3, 0, 9, 0, NONE}, {-1, 0, 3, 0, NONE}, {3, 1200, 6, 0, NONE}, {3, 0, 6, 1200, NONE},
            {3, 0, 4, 0, -2}, {3, 0, 2, 0, -2}, {2, 0, 3, 0, -2}, {7, 0, 8, 0, -2}, {8, 0, 7, 0, -2}, {0, 0, 1, 0, -2}};
        for (int[] o : offers) refused("offer(" + o[0] + ", .., " + o[2] + ")", RefusedTest::busy, x -> x.offer(o[0], o[1], o[2], o[3]), o[4]);
        refused("a ninth", RefusedTest::full, x -> x.offer(0, 300, 1, 300), -3);
        about = "promises 21 and 22";
        for (int i : new int[] {-1, 3, 7, 8}) {
            refused("withdraw(" + i + ")", RefusedTest::busy, x -> one(x.withdraw(i)), 0);
            refused("offered(" + i + ", 0)", RefusedTest::busy, x -> x.offered(i, 0), NONE);
        }
        refused("offered(0, 4)", RefusedTest::busy, x -> x.offered(0, 4), NONE);
        about = "promise 23";
        int[][] deals = {{0, 0}, {0, 2}, {0, 1}, {1, 0}, {1, 2}, {0, 3}, {3, 0}, {-1, 0}, {0, 8}};
        for (int[] d : deals) refused("deal(" + d[0] + ", " + d[1] + ")", RefusedTest::busy, x -> x.deal(d[0], d[1]), CANNOT);
        about = "promise 24";
        refused("bestDeal(0), there is none", RefusedTest::busy, x -> x.bestDeal(0), CANNOT);
        refused("bestDeal(3)", RefusedTest::busy, x -> x.bestDeal(3), CANNOT);
        about = "promise 35";
        int[][] rounds = {{0, 1, 2}, {0, 1, 1}, {1, 1, 0}, {0, 1, 0}, {0, 1, 3}, {0, 3, 1}, {3, 0, 1}, {-1, 0, 1}, {8, 0, 1}};
        for (int[] r : rounds) refused("round(" + r[0] + ", " + r[1] + ", " + r[2] + ")", RefusedTest::busy, x -> x.round(r[0], r[1], r[2]), CANNOT);
        // the first two of the three exchanges can be, the last one can't
        refused("a round that ends too late", RefusedTest::lateRound, x -> x.round(0, 1, 2), CANNOT);
        refused("a round that begins too late", RefusedTest::lateRound, x -> x.round(2, 0, 1), CANNOT);
        refused("a deal of which one half can be", RefusedTest::halfDeal, x -> x.deal(0, 1), CANNOT);
        refused("a deal of which one half can be", RefusedTest::halfDeal, x -> x.deal(1, 0), CANNOT);
    }

    private static StormSlots lateRound() {
        StormSlots x = ring();
        x.offer(0, 219, 3, 999);
        x.offer(1, 999, 4, 999);
        x.offer(2, 999, 5, 999);
        return x;
    }

    private static StormSlots halfDeal() {
        StormSlots x = market();
        x.offer(0, 179, 2, 999);
        x.offer(1, 999, 3, 999);
        return x;
    }

    private static void ofLines() {
        about = "promises 25 to 31, 36";
        for (int l : new int[] {-1, 5}) {
            refused("line(" + l + ", 0)", RefusedTest::busy, x -> x.line(l, 0), NONE);
            refused("bestOrder(" + l + ", NONE)", RefusedTest::busy, x -> x.bestOrder(l, NONE), NONE);
            refused("order(" + l + ")", RefusedTest::busy, x -> x.order(l), NONE);
            refused("bestCancel(" + l + ", 0)", RefusedTest::busy, x -> x.bestCancel(l, 0), NONE);
            refused("helps(3, " + l + ")", RefusedTest::busy, x -> x.helps(3, l), CANNOT);
            refused("cancelAll(" + l + ")", RefusedTest::busy, x -> x.cancelAll(l), NONE);
        }
        refused("line(0, 7)", RefusedTest::busy, x -> x.line(0, 7), NONE);
        refused("bestOrder(0, 9)", RefusedTest::busy, x -> x.bestOrder(0, 9), NONE);
        refused("bestOrder(0, -2)", RefusedTest::busy, x -> x.bestOrder(0, -2), NONE);
        refused("bestOrder(0, 3), of another LINE", RefusedTest::busy, x -> x.bestOrder(0, 3), -2);
        refused("bestOrder(1, 2), CANCELLED", RefusedTest::busy, x -> x.bestOrder(1, 2), -2);
        refused("bestOrder(3, 8), not planned", RefusedTest::busy, x -> x.bestOrder(3, 8), -2);
        refused("bestCancel(0, 0), IN THE AIR", RefusedTest::busy, x -> x.bestCancel(0, 0), -2);
        refused("bestCancel(4, 0), no FLIGHTS", RefusedTest::busy, x -> x.bestCancel(4, 0), -2);
        refused("bestCancel(1, 2)", RefusedTest::busy, x -> x.bestCancel(1, 2), NONE);
        for (int f : new int[] {-1, 0, 1, 2, 8, 9}) {
            refused("helps(" + f + ", 1)", RefusedTest::busy, x -> x.helps(f, 1), CANNOT);
            refused("breaks(" + f + ", 999)", RefusedTest::busy, x -> x.breaks(f, 999), CANNOT);
        }
        refused("rank(-1)", RefusedTest::busy, x -> x.rank(-1), NONE);
        refused("rank(4)", RefusedTest::busy, x -> x.rank(4), -2);
        refused("rank(0), nothing is planned", RefusedTest::told, x -> x.rank(0), -2);
        refused("unfair(), nothing is planned", RefusedTest::told, StormSlots::unfair, -2);
    }

    private static void ofLinks() {
        about = "promises 32 to 34";
        int[][] links = {{0, 0, 0}, {0, 9, 0}, {9, 0, 0}, {-1, 0, 0}, {0, -1, 0}, {0, 1, -1}, {0, 1, 301}};
        for (int[] l : links) refused("link(" + l[0] + ", " + l[1] + ", " + l[2] + ")", RefusedTest::busy, x -> x.link(l[0], l[1], l[2]), NONE);
        refused("a 13th", RefusedTest::full, x -> x.link(0, 1, 0), -2);
        for (int i : new int[] {-1, 2, 12}) refused("linked(" + i + ", 0)", RefusedTest::busy, x -> x.linked(i, 0), NONE);
        refused("linked(0, 5)", RefusedTest::busy, x -> x.linked(0, 5), NONE);
        refused("breaks(3, 150), ahead of EARLIEST", RefusedTest::busy, x -> x.breaks(3, 150), CANNOT);
        refused("breaks(3, 1200)", RefusedTest::busy, x -> x.breaks(3, 1200), CANNOT);
    }

    private static void ofWhatWouldBe() {
        about = "promises 37 to 44";
        refused("byRule(3, 0)", RefusedTest::busy, x -> x.byRule(3, 0), NONE);
        refused("byRule(0, 4)", RefusedTest::busy, x -> x.byRule(0, 4), NONE);
        refused("byRule(0, 0), no FLIGHTS", StormSlots::new, x -> x.byRule(0, 0), -2);
        refused("demand(12, 0)", RefusedTest::busy, x -> x.demand(12, 0), NONE);
        refused("demand(0, 3)", RefusedTest::busy, x -> x.demand(0, 3), NONE);
        refused("crowded(2)", RefusedTest::busy, x -> x.crowded(2), NONE);
        refused("would(13, 0, 0, 0)", RefusedTest::busy, x -> x.would(13, 0, 0, 0), NONE);
        refused("would(1, 1, 0, 0)", RefusedTest::busy, x -> x.would(1, 1, 0, 0), NONE);
        refused("would(1, 0, 0, 3)", RefusedTest::busy, x -> x.would(1, 0, 0, 3), NONE);
        refused("would(1, 0, 0, 0), no FLIGHTS", StormSlots::new, x -> x.would(1, 0, 0, 0), -2);
        refused("rateFor(1, 0, 0)", RefusedTest::busy, x -> x.rateFor(1, 0, 0), NONE);
        refused("rateFor(0, 0, 1201)", RefusedTest::busy, x -> x.rateFor(0, 0, 1201), NONE);
        refused("rateFor(2, 3, 0), none does", RefusedTest::busy, x -> x.rateFor(2, 3, 0), -2);
        refused("rateFor(0, 0, 0), no FLIGHTS", StormSlots::new, x -> x.rateFor(0, 0, 0), -2);
        refused("ifCut(120, 0), below NOW", RefusedTest::busy, x -> x.ifCut(120, 0), NONE);
        refused("ifCut(720, 0)", RefusedTest::busy, x -> x.ifCut(720, 0), NONE);
        refused("ifCut(121, 13)", RefusedTest::busy, x -> x.ifCut(121, 13), NONE);
        refused("ifCut(0, 0), nothing is planned", RefusedTest::told, x -> x.ifCut(0, 0), -2);
        refused("airborne(1200)", RefusedTest::busy, x -> x.airborne(1200), NONE);
        refused("next(1200)", RefusedTest::busy, x -> x.next(1200), NONE);
        refused("next(1199), there is none", RefusedTest::busy, x -> x.next(1199), -2);
        about = "promises 45 to 47";
        refused("count(13)", RefusedTest::busy, x -> x.count(13), NONE);
        refused("count(-1)", RefusedTest::busy, x -> x.count(-1), NONE);
        refused("keep(), 8 are", RefusedTest::full, StormSlots::keep, NONE);
        refused("undo(), there is none", Asked::six, StormSlots::undo, NONE);
    }

    // ---- of several reasons

    private static void reasons() {
        about = "Of several reasons NONE comes first, then -2, and so on";
        due("schedule: no such n, and a FAULT", full().schedule(0), NONE);
        due("flight: 20, and no such ETA", full().flight(0, 720, 0, 1), NONE);
        due("flight: 20, and no such LINE", full().flight(-1, 0, 0, 1), NONE);
        due("flight: 20, and no such TIME", full().flight(0, 0, -1, 1), NONE);
        due("flight: 20, and no such WEIGHT", full().flight(0, 0, 0, 0), NONE);
        due("told: not planned, and no such what", told().told(0, 11), NONE);
        due("move: it can't be, and no such minute", busy().move(8, 1200), NONE);
        due("move: it can't be, and no such FLIGHT", busy().move(9, 0), NONE);
        due("vacant: not so many, and no such what", busy().vacant(9, 2), NONE);
        due("vacant: k below 0, and no such what", busy().vacant(-1, 2), NONE);
        due("offer: not so, and no such minute", busy().offer(3, 1200, 2, 0), NONE);
        due("offer: not so, and no such minute", busy().offer(3, 0, 2, -1), NONE);
        due("offer: not so, and a is b", busy().offer(2, 0, 2, 0), NONE);
        StormSlots eight = full();
        due("offer: 8, and no such FLIGHT", eight.offer(0, 0, 20, 0), NONE);
        due("offer: 8, and a is b", eight.offer(0, 0, 0, 0), NONE);
        due("offer: 8, and no such minute", eight.offer(0, 1200, 1, 0), NONE);
        eight.cancel(19);
        due("offer: 8, not so, and no such minute", eight.offer(19, 0, 1, 1200), NONE);
        due("offer: 8, and not so", eight.offer(19, 0, 1, 0), -2);
        due("offer: 8", eight.offer(0, 0, 1, 0), -3);
        due("offered: none, and no such what", busy().offered(9, 4), NONE);
        due("bestOrder: of another LINE, and no such LINE", busy().bestOrder(5, 3), NONE);
        due("bestOrder: it has none, and no such LINE", busy().bestOrder(-1, 8), NONE);
        due("bestOrder: no such ones", busy().bestOrder(5, 9), NONE);
        due("bestCancel: none can be, and no such what", busy().bestCancel(4, 2), NONE);
        due("link: 12, and f is g", full().link(3, 3, 0), NONE);
        due("link: 12, and no such FLIGHT", full().link(3, 20, 0), NONE);
        due("link: 12, and no such gap", full().link(3, 4, 301), NONE);
        due("linked: one is not planned, and no such what", linkedOnly().linked(0, 5), NONE);
        due("byRule: no FLIGHTS, and no such rule", new StormSlots().byRule(3, 0), NONE);
        due("byRule: no FLIGHTS, and no such what", new StormSlots().byRule(0, 4), NONE);
        due("would: no FLIGHTS, and no such RATE", new StormSlots().would(13, 0, 0, 0), NONE);
        due("would: no FLIGHTS, and x above y", new StormSlots().would(1, 1, 0, 0), NONE);
        due("would: no FLIGHTS, and no such what", new StormSlots().would(1, 0, 0, 3), NONE);
        due("rateFor: no FLIGHTS, and x above y", new StormSlots().rateFor(1, 0, 0), NONE);
        due("rateFor: no FLIGHTS, and no such minutes", new StormSlots().rateFor(0, 0, 1201), NONE);
        due("ifCut: nothing is planned, and no such minute", told().ifCut(720, 0), NONE);
        due("ifCut: nothing is planned, and no such RATE", told().ifCut(0, 13), NONE);
        StormSlots late = told();
        late.now(9);
        due("ifCut: nothing is planned, and below NOW", late.ifCut(8, 0), NONE);
        due("ifCut: nothing is planned", late.ifCut(9, 0), -2);
    }

    private static StormSlots linkedOnly() {
        StormSlots x = told();
        x.link(0, 1, 0);
        return x;
    }

    // ---- what is not refused, and leaves all or most as it is

    private static void questions() {
        about = "a question changes nothing";
        List<ToIntFunction<StormSlots>> all = new ArrayList<>();
        for (int w = 0; w < 11; w++) {
            int v = w;
            all.add(x -> x.told(5, v));
            all.add(x -> x.line(v % 5, v % 7));
            all.add(x -> x.bestOrder(v % 5, NONE));
            all.add(x -> x.bestOrder(2, v % 2 + 4));
            all.add(x -> x.bestCancel(v % 5, v % 2));
            all.add(x -> x.helps(3 + v % 5, v / 2 % 5));
            all.add(x -> x.byRule(v % 3, v % 4));
            all.add(x -> x.would(v, 0, 11, v % 3));
            all.add(x -> x.rateFor(2, 3, 100 * v));
            all.add(x -> x.ifCut(121 + v, v));
            all.add(x -> x.breaks(3 + v % 5, 300 + v));
            all.add(x -> x.bestDeal(v % 3));
            all.add(x -> x.rank(v % 4));
            all.add(x -> x.airborne(100 + 10 * v));
            all.add(x -> x.next(100 + 10 * v));
            all.add(x -> x.demand(v, v % 3));
        }
        all.add(x -> x.unfair());
        all.add(x -> x.crowded(0));
        all.add(x -> x.crowded(1));
        all.add(x -> x.letter(5));
        all.add(x -> x.slot(5));
        all.add(x -> x.at(160));
        for (int k = 0; k < all.size(); k++) {
            due("what question " + k + " changed", changed(RefusedTest::busy, all.get(k)), "");
            due("what question " + k + " changed of what is kept", changedBelow(RefusedTest::busy, all.get(k)), "");
        }
        ToIntFunction<StormSlots> deals = x -> x.bestDeal(0) + x.bestDeal(1) + x.bestDeal(2);
        due("what bestDeal changed", changed(RefusedTest::offers, deals), "");
    }

    private static StormSlots offers() {
        StormSlots x = market();
        x.offer(0, 999, 2, 999);
        x.offer(1, 999, 3, 999);
        return x;
    }

    private static void onlyThat() {
        about = "a call changes what it says, and nothing else";
        changes("feed", RefusedTest::busy, x -> x.feed(1, 2, 3, 4, 5), "count(8)");
        changes("rate(5, 7)", RefusedTest::busy, x -> x.rate(5, 7), "count(10) count(25)");
        changes("rate(2, 3), as it was", RefusedTest::busy, x -> x.rate(2, 3), "");
        changes("storm(1, 11, 11, 12)", RefusedTest::busy, x -> x.storm(1, 11, 11, 12), "count(10) count(31)");
        changes("now(149)", RefusedTest::busy, x -> one(x.now(149)), "count(1)");
        changes("now(150)", RefusedTest::busy, x -> one(x.now(150)), "count(1) told(3, 8)");
        changes("link", RefusedTest::busy, x -> x.link(1, 0, 0), "count(11) count(12) linked(2, 0) linked(2, 1) linked(2, 2)");
        changes("keep", RefusedTest::busy, StormSlots::keep, "count(9)");
        changes("withdraw(1)", RefusedTest::busy, x -> one(x.withdraw(1)), "count(7) offered(1, 0) offered(1, 1) offered(1, 2) offered(1, 3)");
        changes("cancel(4)", RefusedTest::busy, x -> x.cancel(4),
            "count(3) count(5) count(6) told(4, 5) told(4, 6) told(4, 7) told(4, 9) vacant(1, 0) vacant(1, 1)");
        changes("exchange(4, 5)", RefusedTest::busy, x -> x.exchange(4, 5), "count(12) told(4, 5) told(4, 6) told(5, 5) told(5, 6)");
        changes("move(3, 160)", RefusedTest::busy, x -> x.move(3, 160), "count(3) told(3, 5) told(3, 6) vacant(0, 0)");
        changes("keep, then undo", RefusedTest::busy, x -> x.keep() + x.undo(), "");
        due("keep, then undo, of what is kept", changedBelow(RefusedTest::busy, x -> x.keep() + x.undo()), "");
        changes("plan() again", Asked::six, StormSlots::plan, "");
        changes("revise() of what is so", Asked::six, StormSlots::revise, "");
    }

    public static void main(String[] args) {
        ofFlights();
        ofThePlan();
        ofDeals();
        ofLines();
        ofLinks();
        ofWhatWouldBe();
        reasons();
        questions();
        onlyThat();
        end();
    }
}
