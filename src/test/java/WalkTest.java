/** Promises 12 and 13: walk and steps, and part 4 of the terms, each text beside its walk written by hand. */
public final class WalkTest {
    private static final int NONE = ThrowRules.NONE, ENDLESS = ThrowRules.ENDLESS, BAD = ThrowRules.BAD;
    private static final int ALL = 0, LOOSE = 2, A = 4, B = 5, C = 6;
    private static final String KINDS = "kind a below plain; kind b below a; kind c below plain; ";
    private static final String WAYS = "way f { @ } way x throws a, zz, c, a; way z; way m free; way n free throws b; way y throws c; way w throws all; ";

    /** The numbers that a walk draws, by the document's words. */
    private static final class Draws {
        private long z;
        private int steps;

        Draws(long seed) {
            z = seed;
        }

        int draw(int n) {
            z = z * 6364136223846793005L + 1442695040888963407L;
            return (int) ((z >>> 33) % n);
        }

        /** What STEPS a walk had so far, beside its answer. */
        int after(int count, int answer) {
            steps += count;
            return answer;
        }
    }

    private interface Walk {
        int by(Draws draws);
    }

    public static void main(String[] args) {
        Probe probe = new Probe("WalkTest");
        plainStatements(probe);
        calls(probe);
        branches(probe);
        loops(probe);
        tries(probe);
        closings(probe);
        parameters(probe);
        limits(probe);
        wrongCalls(probe);
        probe.end();
    }

    /** Walks the STATEMENTS as METHOD 0 with many seeds. */
    private static void walks(Probe probe, String statements, Walk walk) {
        String text = KINDS + WAYS.replace("@", statements);
        probe.right(text, 7);
        for (int i = 0; i < 100; i++) {
            long seed = i < 40 ? i - 5 : (i - 70) * 0x123456789abcdefL;
            Draws draws = new Draws(seed);
            int want = walk.by(draws);
            probe.due("walk(0, " + seed + ") of " + statements, probe.x.walk(0, seed), want);
            probe.due("steps() of " + statements, probe.x.steps(), draws.steps);
        }
    }

    private static void plainStatements(Probe probe) {
        walks(probe, "", d -> d.after(0, NONE));
        walks(probe, "do; { } { do; } run { throw a; }; set e; throw zz; break; do;", d -> d.after(9, NONE));
        walks(probe, "do; return; do;", d -> d.after(2, NONE));
        walks(probe, "{ return; } throw a;", d -> d.after(2, NONE));
        walks(probe, "do; throw b; throw a;", d -> d.after(2, B));
        walks(probe, "throw all;", d -> d.after(1, ALL));
    }

    private static int thrownByX(Draws d) {
        int[] ends = {NONE, A, C, A};
        return ends[d.draw(4)];
    }

    private static void calls(Probe probe) {
        walks(probe, "call x; do;", d -> {
            int end = thrownByX(d);
            return d.after(end == NONE ? 2 : 1, end);
        });
        // A draw of 1 is a draw, too; the call of an unknown METHOD has none, nor has the LAMBDA of one that is not free.
        walks(probe, "call z; call zz { throw a; }; call z { throw a; }; call x;", d -> {
            d.draw(1);
            d.draw(1);
            return d.after(4, thrownByX(d));
        });
        walks(probe, "call m { return; do; }; call m; call x;", d -> {
            int walked = d.draw(2);
            d.draw(1);
            d.draw(1);
            return d.after(3 + walked, thrownByX(d));
        });
        walks(probe, "call n { do; call x; }; call x;", d -> {
            int end = NONE;
            int steps = 1;
            if (d.draw(2) == 1) {
                end = thrownByX(d);
                steps += 2;
            }
            if (end == NONE) {
                end = d.draw(2) == 1 ? B : NONE;
            }
            return end != NONE ? d.after(steps, end) : d.after(steps + 1, thrownByX(d));
        });
        walks(probe, "call w; do;", d -> d.draw(2) == 1 ? d.after(1, ALL) : d.after(2, NONE));
        walks(probe, "call m { throw all; }; do;", d -> d.after(2, d.draw(2) == 1 ? ALL : NONE));
        walks(probe, "call m { loop { break; } break; do; }; do;", d -> d.after(d.draw(2) == 1 ? 6 : 2, NONE));
    }

    private static void branches(Probe probe) {
        walks(probe, "if { throw a; } else { do; throw b; }", d -> d.draw(2) == 1 ? d.after(2, A) : d.after(3, B));
        walks(probe, "if { throw a; } if { return; } throw b;", d -> {
            if (d.draw(2) == 1) {
                return d.after(2, A);
            }
            return d.draw(2) == 1 ? d.after(3, NONE) : d.after(3, B);
        });
    }

    private static void loops(Probe probe) {
        walks(probe, "while { do; } call x;", d -> {
            int steps = 1;
            while (d.draw(2) == 1) {
                steps += 2;
            }
            return d.after(steps + 1, thrownByX(d));
        });
        walks(probe, "loop { if { break; } do; } throw b;", d -> {
            int steps = 1;
            while (d.draw(2) == 0) {
                steps += 3;
            }
            return d.after(steps + 3, B);
        });
        walks(probe, "while { loop { break; } do; if { break; } } do;", d -> {
            int steps = 1;
            while (d.draw(2) == 1) {
                steps += 4;
                if (d.draw(2) == 1) {
                    steps++;
                    break;
                }
                steps++;
            }
            return d.after(steps + 1, NONE);
        });
        walks(probe, "loop { call x; }", d -> {
            int end = NONE;
            int steps = 0;
            while (end == NONE) {
                end = thrownByX(d);
                steps += 2;
            }
            return d.after(steps, end);
        });
    }

    private static void tries(Probe probe) {
        walks(probe, "try { call x; do; } catch (b e) { do; do; } catch (zz | a e) { do; do; do; } finally { do; } do;", d -> {
            int end = thrownByX(d);
            return end == NONE ? d.after(5, NONE) : end == A ? d.after(7, NONE) : d.after(3, C);
        });
        walks(probe, "try { throw b; } catch (a e) { do; throw c; } catch (plain e) { do; do; }", d -> d.after(4, C));
        walks(probe, "try { call x; } catch (plain e) { return; } finally { throw loose; } do;", d -> d.after(thrownByX(d) == NONE ? 3 : 4, LOOSE));
        walks(probe, "loop { try { return; } finally { break; } } throw a;", d -> d.after(5, A));
        walks(probe, "loop { try { break; } finally { do; return; } } throw a;", d -> d.after(5, NONE));
        walks(probe, "loop { try { break; } finally { break; } } throw a;", d -> d.after(5, A));
        walks(probe, "try { throw a; } finally { break; do; }", d -> d.after(4, A));
        walks(probe, "try { throw a; } finally { loop { break; } }", d -> d.after(4, A));
        walks(probe, "try { try { throw a; } catch (a e) { throw b; } finally { do; } } catch (b e) { do; throw c; }", d -> d.after(7, C));
        walks(probe, "try { return; } catch (all e) { throw a; } finally { do; } throw b;", d -> d.after(3, NONE));
    }

    private static void closings(Probe probe) {
        // The last one first; all are called, but only the first KIND counts.
        walks(probe, "try (y, zz, z, x) { do; } call x;", d -> {
            int first = thrownByX(d);
            d.draw(1);
            int second = d.draw(2) == 1 ? C : NONE;
            int end = first != NONE ? first : second;
            return end != NONE ? d.after(2, end) : d.after(3, thrownByX(d));
        });
        walks(probe, "try (x) { throw b; } catch (b e) { } call x;", d -> {
            thrownByX(d);
            return d.after(3, thrownByX(d));
        });
        walks(probe, "try (y) { return; } catch (c e) { do; } throw a;", d -> d.draw(2) == 1 ? d.after(4, A) : d.after(2, NONE));
        walks(probe, "loop { try (y) { break; } finally { do; } } throw a;", d -> d.draw(2) == 1 ? d.after(4, C) : d.after(5, A));
        walks(probe, "try (w) { do; } do;", d -> d.draw(2) == 1 ? d.after(2, ALL) : d.after(3, NONE));
        walks(probe, "try (y) { throw all; }", d -> d.after(2, ALL));
        walks(probe, "try (n, m) { } do;", d -> {
            d.draw(1);
            return d.draw(2) == 1 ? d.after(1, B) : d.after(2, NONE);
        });
    }

    private static void parameters(Probe probe) {
        walks(probe, "try { throw b; } catch (a e) { throw e; }", d -> d.after(3, B));
        walks(probe, "try { throw b; } catch (a e) { set e; throw e; }", d -> d.after(4, A));
        walks(probe, "try { throw b; } catch (zz | c | a e) { set e; throw e; }", d -> d.after(4, C));
        walks(probe, "try { throw b; } catch (a e) { try { throw c; } catch (c p) { throw e; } }", d -> d.after(5, B));
        walks(probe, "try { throw b; } catch (a e) { try { throw c; } catch (c e) { throw e; } }", d -> d.after(5, C));
        walks(probe, "try { throw b; } catch (a e) { try { throw c; } catch (c e) { } throw e; }", d -> d.after(5, B));
        walks(probe, "try { throw b; } catch (a e) { call m { set e; }; throw e; }", d -> {
            int walked = d.draw(2);
            return d.after(4 + walked, walked == 1 ? A : B);
        });
        walks(probe, "try { throw b; } catch (a e) { run { set e; }; call m { throw e; }; }", d -> {
            int walked = d.draw(2);
            return d.after(4 + walked, walked == 1 ? B : NONE);
        });
        walks(probe, "try { throw b; } catch (a c) { throw c; }", d -> d.after(3, B));
    }

    private static void limits(Probe probe) {
        walks(probe, "loop { }", d -> d.after(300, ENDLESS));
        walks(probe, "loop { do; }", d -> d.after(300, ENDLESS));
        walks(probe, "try { loop { } } catch (all e) { } finally { throw a; }", d -> d.after(300, ENDLESS));
        walks(probe, "try (x) { loop { } } finally { return; }", d -> d.after(300, ENDLESS));
        walks(probe, "loop { try { break; } finally { loop { do; } } }", d -> d.after(300, ENDLESS));
        walks(probe, "try { throw a; } catch (a e) { loop { } }", d -> d.after(300, ENDLESS));
        walks(probe, "call m { loop { } };", d -> d.draw(2) == 1 ? d.after(300, ENDLESS) : d.after(1, NONE));
        exactly(probe, "throw loose;", LOOSE, 299);
        exactly(probe, "do; throw loose;", LOOSE, 300);
        exactly(probe, "do; do;", NONE, 300);
        exactly(probe, "do; do; throw loose;", ENDLESS, 300);
        exactly(probe, "do; while { }", NONE, 300);
    }

    /** STATEMENTS behind a loop that has 298 STEPS: the third time its if is drawn 1, and each time it has 99. */
    private static void exactly(Probe probe, String behind, int answer, int steps) {
        probe.right("way f { loop { " + "do; ".repeat(97) + "if { break; } } " + behind + " }", 1);
        long seed = 0;
        while (!endsThird(seed)) {
            seed++;
        }
        probe.due("walk(0, " + seed + ") with " + behind, probe.x.walk(0, seed), answer);
        probe.due("steps() with " + behind, probe.x.steps(), steps);
    }

    private static boolean endsThird(long seed) {
        Draws draws = new Draws(seed);
        return draws.draw(2) == 0 && draws.draw(2) == 0 && draws.draw(2) == 1 && draws.draw(2) == 0;
    }

    private static void wrongCalls(Probe probe) {
        probe.right("way f; way g { do; do; }", 2);
        Counted x = probe.x;
        probe.due("steps() of no walk", x.steps(), 0);
        probe.due("walk(1, 0)", x.walk(1, 0), NONE);
        int[] wrongNumbers = {0, -1, 2, Integer.MIN_VALUE, Integer.MAX_VALUE};
        for (int wrong : wrongNumbers) {
            probe.due("walk(" + wrong + ", 0)", x.walk(wrong, 0), BAD);
            probe.due("steps() behind it", x.steps(), 2);
        }
        probe.due("walk(1, lowest)", x.walk(1, Long.MIN_VALUE), NONE);
        probe.due("read of a wrong text", probe.read("way"), -13);
        probe.due("steps() behind it", x.steps(), 2);
    }
}
