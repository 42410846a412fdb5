import java.util.EnumMap;
import java.util.EnumSet;
import java.util.List;
import java.util.Map;
import java.util.Set;
import java.util.function.Supplier;
import java.util.function.ToLongFunction;

/** Objects made alike, so that one to which something was done can be held against one to which it wasn't. */
final class Alike {
    private final Supplier<ThiefTakers> made;
    private final Map<Whole, String> untouched = new EnumMap<>(Whole.class);

    Alike(Supplier<ThiefTakers> made) {
        this.made = made;
        for (Whole part : Whole.values()) {
            untouched.put(part, part.of(made.get()));
        }
    }

    /** The call answers so, and all but the parts named is as if it had not been made. */
    void leaves(String call, ToLongFunction<ThiefTakers> asked, long want, Whole... but) {
        Told.due(call, asked.applyAsLong(made.get()), want);
        Set<Whole> parts = EnumSet.allOf(Whole.class);
        parts.removeAll(List.of(but));
        for (Whole part : parts) {
            ThiefTakers x = made.get();
            asked.applyAsLong(x);
            Told.same(call + " leaves " + part, part.of(x), untouched.get(part));
        }
    }

    /** Whatever it answers, all is as if it had not been asked. */
    void asked(String call, ToLongFunction<ThiefTakers> asked) {
        leaves(call, asked, asked.applyAsLong(made.get()));
    }

    /** Behind the calls all is as with the other ones. */
    void becomes(String call, ToLongFunction<ThiefTakers> asked, Supplier<ThiefTakers> other) {
        for (Whole part : Whole.values()) {
            ThiefTakers x = made.get();
            asked.applyAsLong(x);
            Told.same(call + ": " + part, part.of(x), part.of(other.get()));
        }
    }

    /** Each number beyond low .. high is refused with that answer and changes nothing; none within is refused. */
    void takes(String call, int low, int high, Asked asked, long refusal) {
        for (int number : Edges.beyond(low, high)) {
            leaves(call + " of " + number, x -> asked.of(x, number), refusal);
        }
        for (int number : Edges.within(low, high)) {
            Told.due(call + " of " + number + " is refused", asked.of(made.get(), number) == refusal, false);
        }
    }

    /** A call with one of its numbers left open. */
    interface Asked {
        long of(ThiefTakers x, int number);
    }
}
