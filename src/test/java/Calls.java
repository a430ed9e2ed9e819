import java.util.IdentityHashMap;
import java.util.Map;

/** Makes calls that are written as text, as "put(0, 3)", and no more on an object than the document promises. */
final class Calls {
    private static final int MOST = 512;
    private static final Map<HookTrays, Integer> MADE = new IdentityHashMap<>();

    private Calls() { }

    static long ask(HookTrays x, String call) {
        if (MADE.merge(x, 1, Integer::sum) > MOST) {
            throw new IllegalStateException(call + " would be call " + (MOST + 1) + " of its object");
        }
        int open = call.indexOf('(');
        String inside = call.substring(open + 1, call.length() - 1);
        String[] texts = inside.isEmpty() ? new String[0] : inside.split(", ");
        int[] numbers = new int[texts.length];
        for (int i = 0; i < texts.length; i++) {
            numbers[i] = Integer.parseInt(texts[i]);
        }
        return ask(x, call.substring(0, open), numbers);
    }

    static long ask(HookTrays x, String name, int[] a) {
        int p = a.length > 0 ? a[0] : 0;
        int q = a.length > 1 ? a[1] : 0;
        switch (name) {
            case "card": return x.card(p, q);
            case "told": return x.told(p, q);
            case "hook": return x.hook(p, q);
            case "plan": return x.plan(p, q, a[2], a[3]);
            case "clearPlans": return x.clearPlans();
            case "about": return x.about(p, q);
            case "tray": return x.tray(p, q);
            case "put": return x.put(p, q);
            case "take": return x.take(p, q);
            case "first": return x.first(p);
            case "find": return x.find(p, q);
            case "sort": return x.sort(p, q);
            case "filter": return x.filter(p, q);
            case "change": return x.change(p, q);
            case "all": return x.all(p, q);
            case "at": return x.at(p, q);
            case "whole": return x.whole(p, q);
            case "same": return x.same(p, q);
            case "thrown": return x.thrown(p);
            case "count": return x.count(p);
            default: throw new IllegalArgumentException(name);
        }
    }
}
