import java.util.ArrayList;
import java.util.List;

/** A ShipSkins and an Oracle that get the same calls; tells where their answers part. */
final class Pair {
    final ShipSkins mine = new ShipSkins();
    final Oracle due = new Oracle();
    private final List<String> calls = new ArrayList<>();
    static int wrong = 0;
    static long compared = 0;

    int made() {
        return calls.size();
    }

    long ask(String name, int... a) {
        long got = ofMine(name, a);
        long want = ofDue(name, a);
        StringBuilder row = new StringBuilder(name).append('(');
        for (int i = 0; i < a.length; i++) row.append(i == 0 ? "" : ", ").append(a[i]);
        calls.add(row.append(") ").append(got).toString());
        compared++;
        if (got != want) {
            wrong++;
            if (wrong <= 3) {
                for (String c : calls) System.out.println("  " + c);
            }
            System.out.println("answered " + got + ", due is " + want + " by the oracle");
        }
        return want;
    }

    private long ofMine(String name, int[] a) {
        return switch (name) {
            case "table" -> mine.table(a[0], a[1], a[2], a[3]);
            case "ship" -> mine.ship(a[0]);
            case "leg" -> mine.leg(a[0], a[1], a[2], a[3], a[4], a[5]);
            case "cleaned" -> mine.cleaned(a[0], a[1], a[2]);
            case "terms" -> mine.terms(a[0], a[1]);
            case "log" -> mine.log(a[0], a[1], a[2], a[3], a[4], a[5]);
            case "look" -> mine.look(a[0], a[1], a[2], a[3], a[4], a[5]);
            case "of" -> mine.of(a[0], a[1]);
            case "leave" -> mine.leave(a[0], a[1]);
            case "law" -> mine.law(a[0], a[1], a[2]);
            case "share" -> mine.share(a[0], a[1], a[2], a[3]);
            case "span" -> mine.span(a[0], a[1], a[2], a[3]);
            case "why" -> mine.why(a[0], a[1], a[2], a[3]);
            case "lost" -> mine.lost(a[0], a[1], a[2], a[3], a[4]);
            case "widest" -> mine.widest(a[0], a[1], a[2], a[3]);
            case "quarrels" -> mine.quarrels(a[0], a[1], a[2]);
            case "quarrel" -> mine.quarrel(a[0], a[1]);
            case "right" -> mine.right(a[0], a[1]);
            case "isRight" -> mine.isRight(a[0]);
            case "prove" -> mine.prove(a[0], a[1]);
            case "proof" -> mine.proof(a[0]);
            case "feed" -> mine.feed(a[0], a[1], a[2], a[3], a[4]);
            case "end" -> mine.end(a[0]);
            case "check" -> mine.check(a[0], a[1], a[2]);
            case "fault" -> mine.fault();
            case "miss" -> mine.miss(a[0], a[1]);
            case "curve" -> mine.curve(a[0]);
            case "hidden" -> mine.hidden(a[0], a[1], a[2]);
            case "hid" -> mine.hid(a[0]);
            case "call" -> mine.call(a[0]);
            case "clear" -> mine.clear();
            case "plan" -> mine.plan(a[0], a[1], a[2], a[3]);
            case "judge" -> mine.judge(a[0], a[1], a[2], a[3], a[4]);
            case "seal" -> mine.seal();
            case "alter" -> mine.alter(a[0], a[1]);
            case "found" -> mine.found();
            case "image" -> mine.image(a[0]);
            case "back" -> mine.back(a[0]);
            case "count" -> mine.count(a[0]);
            case "status" -> mine.status();
            default -> throw new IllegalArgumentException(name);
        };
    }

    private long ofDue(String name, int[] a) {
        return switch (name) {
            case "table" -> due.table(a[0], a[1], a[2], a[3]);
            case "ship" -> due.ship(a[0]);
            case "leg" -> due.leg(a[0], a[1], a[2], a[3], a[4], a[5]);
            case "cleaned" -> due.cleaned(a[0], a[1], a[2]);
            case "terms" -> due.terms(a[0], a[1]);
            case "log" -> due.log(a[0], a[1], a[2], a[3], a[4], a[5]);
            case "look" -> due.look(a[0], a[1], a[2], a[3], a[4], a[5]);
            case "of" -> due.of(a[0], a[1]);
            case "leave" -> due.leave(a[0], a[1]);
            case "law" -> due.law(a[0], a[1], a[2]);
            case "share" -> due.share(a[0], a[1], a[2], a[3]);
            case "span" -> due.span(a[0], a[1], a[2], a[3]);
            case "why" -> due.why(a[0], a[1], a[2], a[3]);
            case "lost" -> due.lost(a[0], a[1], a[2], a[3], a[4]);
            case "widest" -> due.widest(a[0], a[1], a[2], a[3]);
            case "quarrels" -> due.quarrels(a[0], a[1], a[2]);
            case "quarrel" -> due.quarrel(a[0], a[1]);
            case "right" -> due.right(a[0], a[1]);
            case "isRight" -> due.isRight(a[0]);
            case "prove" -> due.prove(a[0], a[1]);
            case "proof" -> due.proof(a[0]);
            case "feed" -> due.feed(a[0], a[1], a[2], a[3], a[4]);
            case "end" -> due.end(a[0]);
            case "check" -> due.check(a[0], a[1], a[2]);
            case "fault" -> due.fault();
            case "miss" -> due.miss(a[0], a[1]);
            case "curve" -> due.curve(a[0]);
            case "hidden" -> due.hidden(a[0], a[1], a[2]);
            case "hid" -> due.hid(a[0]);
            case "call" -> due.call(a[0]);
            case "clear" -> due.clear();
            case "plan" -> due.plan(a[0], a[1], a[2], a[3]);
            case "judge" -> due.judge(a[0], a[1], a[2], a[3], a[4]);
            case "seal" -> due.seal();
            case "alter" -> due.alter(a[0], a[1]);
            case "found" -> due.found();
            case "image" -> due.image(a[0]);
            case "back" -> due.back(a[0]);
            case "count" -> due.count(a[0]);
            case "status" -> due.status();
            default -> throw new IllegalArgumentException(name);
        };
    }
}
