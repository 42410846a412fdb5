/** All that can be heard of an object, a part at a time; hearing most parts uses the object up. */
enum Whole {
    /** What is now. */
    IS {
        @Override
        String of(ThiefTakers x) {
            Heard heard = new Heard();
            now(x, heard);
            told(x, heard);
            laws(x, heard);
            return heard.toString();
        }
    },
    FAULT {
        @Override
        String of(ThiefTakers x) {
            return new Heard().add("fault", x.fault(0)).add("place", x.fault(1)).toString();
        }
    },
    /** What is known by what was seen. */
    FACTS {
        @Override
        String of(ThiefTakers x) {
            Heard heard = new Heard().add("facts", x.count(10)).add("known by", x.count(11));
            bolds(x, heard);
            // Another one of those to come tells whether it is known by all.
            heard.add("strike", x.strike(1)).add("known by then", x.count(11));
            bolds(x, heard);
            return heard.toString();
        }
    },
    /** What can be undone, and what it was like before. */
    UNDONE {
        @Override
        String of(ThiefTakers x) {
            Heard heard = new Heard();
            int left = x.count(12);
            while (left >= 0) {
                heard.add("left", left).add("barred", x.count(9)).add("loot", x.count(7));
                for (int guard = 0; guard < x.count(2); guard++) {
                    heard.add("guard", x.guard(guard, 0));
                }
                left = x.undo();
            }
            now(x, heard);
            return heard.toString();
        }
    },
    /** What comes by hours, by the numbers too. */
    COMES {
        @Override
        String of(ThiefTakers x) {
            Heard heard = new Heard();
            for (int hours : new int[] {1, 7}) {
                heard.add("go", x.go(hours));
                now(x, heard);
            }
            return heard.toString();
        }
    },
    IMAGE {
        @Override
        String of(ThiefTakers x) {
            Heard heard = new Heard().add("back", x.back());
            now(x, heard);
            heard.add("go", x.go(7));
            now(x, heard);
            return heard.toString();
        }
    },
    TAPE {
        @Override
        String of(ThiefTakers x) {
            int fed = x.feed(0x20202020, 0x20202020, 0x20202020, 0x20202020, 0x20202020);
            Heard heard = new Heard().add("fed", fed).add("too many", x.text(701));
            heard.add("lines", x.text(fed < 0 ? 700 : fed)).add("fault", x.fault(0)).add("place", x.fault(1));
            now(x, heard);
            return heard.toString();
        }
    };

    abstract String of(ThiefTakers x);

    private static final class Heard {
        private final StringBuilder lines = new StringBuilder();

        Heard add(String what, long answer) {
            lines.append(what).append(' ').append(answer).append('\n');
            return this;
        }

        @Override
        public String toString() {
            return lines.toString();
        }
    }

    private static void now(ThiefTakers x, Heard heard) {
        for (int what = 0; what <= 12; what++) {
            heard.add("count " + what, x.count(what));
        }
        for (int corner = 0; corner < x.count(0); corner++) {
            for (int what = 1; what <= 4; what++) {
                heard.add("corner " + corner + " " + what, x.corner(corner, what));
            }
        }
        for (int guard = 0; guard < x.count(2); guard++) {
            for (int what = 0; what <= 2; what++) {
                heard.add("guard " + guard + " " + what, x.guard(guard, what));
            }
        }
        for (int thief = 0; thief < x.count(3); thief++) {
            for (int what = 0; what <= 3; what++) {
                heard.add("thief " + thief + " " + what, x.thief(thief, what));
            }
        }
    }

    /** What only another text changes. */
    private static void told(ThiefTakers x, Heard heard) {
        for (int corner = 0; corner < x.count(0); corner++) {
            heard.add("light " + corner, x.corner(corner, 0));
        }
        for (int lane = 0; lane < x.count(1); lane++) {
            for (int what = 0; what <= 3; what++) {
                heard.add("lane " + lane + " " + what, x.lane(lane, what));
            }
        }
        for (int kind = 0; kind <= 2; kind++) {
            for (char letter = 'a'; letter <= 'z'; letter++) {
                heard.add("named " + kind + " " + letter, x.named(kind, Told.letters("" + letter)));
            }
        }
        heard.add("grip above", x.holds(1, 0)).add("grip below", x.holds(1, 1));
    }

    private static void laws(ThiefTakers x, Heard heard) {
        for (int thief = 0; thief < x.count(3); thief++) {
            heard.add("dread", x.law(0, thief, 0)).add("take", x.law(1, thief, 0)).add("stir", x.law(2, thief, 0));
        }
    }

    private static void bolds(ThiefTakers x, Heard heard) {
        for (int thief = 0; thief < x.count(3); thief++) {
            heard.add("bolds", x.bolds(thief)).add("ask", x.ask(thief, 0)).add("left", x.ask(thief, 1));
        }
    }
}
