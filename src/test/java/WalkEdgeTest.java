import java.math.BigInteger;

/** Promises 12 and 13 and part 4 of the terms at their edges, sentence by sentence. */
public final class WalkEdgeTest {
    private static final int NONE = ThrowRules.NONE, ENDLESS = ThrowRules.ENDLESS, BAD = ThrowRules.BAD;
    private static final int ALL = 0, LOOSE = 2, A = 4, B = 5, C = 6;
    private static final String KINDS = "kind a below plain; kind b below a; kind c below plain; ";
    private static final String WAYS = "way f { @ } way x throws a, zz, c, a; way z; way m free; way n free throws b; way y throws c; way v throws zz; "
        + "way w throws a, b, c, all; way t throws all; ";
    private static final long[] SEEDS = {0, 1, 2, -1, -2, 7919, Long.MAX_VALUE, Long.MAX_VALUE - 1, Long.MIN_VALUE, Long.MIN_VALUE + 1, 1L << 31, 1L << 32, 1L << 33,
        -1L << 33, 1L << 62, 0x5555555555555555L, 0xaaaaaaaaaaaaaaaaL, 6364136223846793005L, -1442695040888963407L, 1442695040888963407L};

    /** The numbers that a walk draws, reckoned without the wrap-around of longs, and its STEPS. */
    private static final class Draws {
        private static final BigInteger WRAP = BigInteger.ONE.shiftLeft(64);
        private static final BigInteger TIMES = new BigInteger("6364136223846793005");
        private static final BigInteger PLUS = new BigInteger("1442695040888963407");
        private BigInteger z;
        private int steps;

        Draws(long seed) {
            z = BigInteger.valueOf(seed).mod(WRAP);
        }

        int draw(int n) {
            z = z.multiply(TIMES).add(PLUS).mod(WRAP);
            return z.shiftRight(33).mod(BigInteger.valueOf(n)).intValue();
        }

        int after(int count, int answer) {
            steps += count;
            return answer;
        }

        int thrownByX() {
            int[] ends = {NONE, A, C, A};
            return ends[draw(4)];
        }
    }

    private interface Walk {
        int by(Draws draws);
    }

    private final Probe probe = new Probe("WalkEdgeTest");

    public static void main(String[] args) {
        WalkEdgeTest test = new WalkEdgeTest();
        test.drawsWrapAround();
        test.drawsOfOneToFive();
        test.stepsOfEverySort();
        test.callsOfUnknownMethods();
        test.lambdas();
        test.unknownThrowsAndSets();
        test.ifWithoutElse();
        test.breaks();
        test.setsOfEachTime();
        test.heldMethodsAreAllCalled();
        test.heldMethodsInPlaceOfBreakAndReturn();
        test.caughtByTheFirst();
        test.finallyInstead();
        test.ends299And300And301();
        test.emptyBlocksBehindTheLastStep();
        test.callsAreNoStepsThemselves();
        test.loopsAtTheLastStep();
        test.tryAtTheLastStep();
        test.endlessLoops();
        test.noSuchMethod();
        test.firstAndLastMethod();
        test.stepsOfTheLatestWalk();
        test.walksLeaveTheUnit();
        test.walksAreAlike();
        test.probe.end();
    }

    /** Walks the STATEMENTS as METHOD 0 with the seeds. */
    private void walks(String statements, long[] seeds, Walk walk) {
        String text = KINDS + WAYS.replace("@", statements);
        probe.both(() -> {
            probe.due("read of " + text, probe.read(text), 9);
            for (long seed : seeds) {
                Draws draws = new Draws(seed);
                int want = walk.by(draws);
                probe.due("walk(0, " + seed + ") of " + statements, probe.x.walk(0, seed), want);
                probe.due("steps() of " + statements, probe.x.steps(), draws.steps);
            }
        });
    }

    private void walks(String statements, Walk walk) {
        long[] seeds = new long[SEEDS.length + 60];
        System.arraycopy(SEEDS, 0, seeds, 0, SEEDS.length);
        for (int i = SEEDS.length; i < seeds.length; i++) {
            seeds[i] = i * 7919L - 3;
        }
        walks(statements, seeds, walk);
    }

    /** "z becomes z * 6364136223846793005 + 1442695040888963407 (as longs)": forty draws, one behind the other. */
    private void drawsWrapAround() {
        walks("if { do; } ".repeat(40), d -> {
            int drawn = 0;
            for (int n = 0; n < 40; n++) {
                drawn += d.draw(2);
            }
            return d.after(40 + drawn, NONE);
        });
    }

    /** "a draw of 1 and how many NAMES of known KINDS stand behind its throws": 0 to 4 such NAMES. */
    private void drawsOfOneToFive() {
        int[] ends = {NONE, A, B, C, ALL};
        walks("call z; call v; call y; call w;", d -> {
            d.draw(1);
            d.draw(1);
            if (d.draw(2) == 1) {
                return d.after(3, C);
            }
            return d.after(4, ends[d.draw(5)]);
        });
        walks("call x; call w;", d -> {
            int end = d.thrownByX();
            return end != NONE ? d.after(1, end) : d.after(2, ends[d.draw(5)]);
        });
    }

    /** "each is a STEP when it begins" */
    private void stepsOfEverySort() {
        String[] one = {"do;", "call z;", "call zz;", "set e;", "throw zz;", "break;", "run { do; do; };", "{ }", "try { } finally { }", "try (z) { }", "if { }",
            "if { } else { }", "call m { };", "try { } catch (all e) { do; }"};
        for (String each : one) {
            walks(each, d -> d.after(1, NONE));
            walks("do; " + each + " do;", d -> d.after(3, NONE));
        }
        walks("return;", d -> d.after(1, NONE));
        walks("throw b;", d -> d.after(1, B));
        walks("", d -> d.after(0, NONE));
    }

    /** "call of a known METHOD": an unknown one draws nothing, with a LAMBDA or without, nor in the ( ) of a try. */
    private void callsOfUnknownMethods() {
        walks("call zz; call zz { throw a; }; try (zz, zz) { } call x;", d -> d.after(4, d.thrownByX()));
    }

    /** "with a LAMBDA and a free METHOD a draw of 2 .. a return ends it alone. Then, if nothing was thrown, .." */
    private void lambdas() {
        walks("call y { throw a; }; do;", d -> d.draw(2) == 1 ? d.after(1, C) : d.after(2, NONE));
        walks("call n; do;", d -> d.draw(2) == 1 ? d.after(1, B) : d.after(2, NONE));
        walks("call n { }; do;", d -> {
            d.draw(2);
            return d.draw(2) == 1 ? d.after(1, B) : d.after(2, NONE);
        });
        walks("call n { return; throw a; }; do;", d -> {
            int walked = d.draw(2);
            return d.draw(2) == 1 ? d.after(1 + walked, B) : d.after(2 + walked, NONE);
        });
        walks("call n { throw a; }; do;", d -> d.draw(2) == 1 ? d.after(2, A) : d.draw(2) == 1 ? d.after(1, B) : d.after(2, NONE));
        walks("call n { throw all; }; do;", d -> d.draw(2) == 1 ? d.after(2, ALL) : d.draw(2) == 1 ? d.after(1, B) : d.after(2, NONE));
        walks("call n { break; do; }; do;", d -> {
            int walked = 2 * d.draw(2);
            return d.draw(2) == 1 ? d.after(1 + walked, B) : d.after(2 + walked, NONE);
        });
        walks("while { call m { break; return; }; break; } do;", d -> {
            if (d.draw(2) == 0) {
                return d.after(2, NONE);
            }
            int walked = 2 * d.draw(2);
            d.draw(1);
            return d.after(4 + walked, NONE);
        });
    }

    /** "throw: the KIND, or what the PARAMETER is; unknown: nothing." */
    private void unknownThrowsAndSets() {
        walks("throw zz; set zz; throw x; do;", d -> d.after(4, NONE));
        walks("loop { throw zz; break; } throw c;", d -> d.after(4, C));
        walks("try { throw zz; do; } catch (all e) { do; do; } finally { throw zz; }", d -> d.after(4, NONE));
        walks("try { throw c; } finally { throw zz; do; }", d -> d.after(4, C));
        walks("try { throw b; } catch (zz e) { throw a; }", d -> d.after(2, B));
        walks("try { throw b; } catch (a e) { set zz; throw e; }", d -> d.after(4, B));
    }

    /** "if: a draw of 2: 1 the first BLOCK, 0 the other one" */
    private void ifWithoutElse() {
        walks("if { throw a; } throw b;", d -> d.draw(2) == 1 ? d.after(2, A) : d.after(2, B));
        walks("if { } else { throw a; } throw b;", d -> d.draw(2) == 0 ? d.after(2, A) : d.after(2, B));
        walks("if { throw a; } else { } throw b;", d -> d.draw(2) == 1 ? d.after(2, A) : d.after(2, B));
    }

    /** "break: the loop it belongs to is over; without one: nothing." */
    private void breaks() {
        walks("break; if { break; } break; throw a;", d -> d.after(4 + d.draw(2), A));
        walks("loop { loop { break; } do; { break; } } throw a;", d -> d.after(7, A));
        walks("loop { while { break; } break; } throw a;", d -> d.draw(2) == 1 ? d.after(5, A) : d.after(4, A));
        walks("loop { try { { break; } } finally { do; } } throw a;", d -> d.after(6, A));
        walks("try { throw b; } finally { break; } ", d -> d.after(3, B));
        walks("try { return; } finally { break; } throw a;", d -> d.after(3, NONE));
        walks("loop { call m { break; }; break; } throw a;", d -> {
            int walked = d.draw(2);
            d.draw(1);
            return d.after(4 + walked, A);
        });
    }

    /** "set: the PARAMETER becomes the first known KIND of its catch": until it is caught again. */
    private void setsOfEachTime() {
        walks("while { try { throw b; } catch (zz | a | c e) { if { set e; } call m { throw e; }; } }", d -> {
            d.after(1, NONE);
            while (d.draw(2) == 1) {
                int set = d.draw(2);
                d.after(4 + set, NONE);
                if (d.draw(2) == 1) {
                    return d.after(1, set == 1 ? A : B);
                }
                d.draw(1);
                d.after(1, NONE);
            }
            return NONE;
        });
        walks("try { throw b; } catch (b | a e) { set e; throw e; }", d -> d.after(4, B));
        walks("try { throw b; } catch (all | a e) { set e; throw e; }", d -> d.after(4, ALL));
    }

    /** "then the METHODS in its ( ), the last one first, are called as above": also when something was thrown already. */
    private void heldMethodsAreAllCalled() {
        int[] ends = {NONE, A, B, C, ALL};
        walks("try (w, y, zz, x) { do; } catch (zz e) { } call x;", d -> {
            int first = d.thrownByX();
            int second = d.draw(2) == 1 ? C : NONE;
            int third = ends[d.draw(5)];
            int end = first != NONE ? first : second != NONE ? second : third;
            return end != NONE ? d.after(2, end) : d.after(3, d.thrownByX());
        });
        walks("try (w, y) { throw loose; } catch (loose e) { } call x;", d -> {
            d.draw(2);
            d.draw(5);
            return d.after(3, d.thrownByX());
        });
        // Without a LAMBDA: a free METHOD has no draw of 2.
        walks("try (m, n) { } call x;", d -> {
            if (d.draw(2) == 1) {
                d.draw(1);
                return d.after(1, B);
            }
            d.draw(1);
            return d.after(2, d.thrownByX());
        });
    }

    /** "what they throw is thrown, if nothing was yet, in place of a break or return, too" */
    private void heldMethodsInPlaceOfBreakAndReturn() {
        walks("try (y) { return; } throw a;", d -> d.after(2, d.draw(2) == 1 ? C : NONE));
        walks("loop { try (y) { break; } } throw a;", d -> d.draw(2) == 1 ? d.after(3, C) : d.after(4, A));
        walks("loop { try (y) { break; } catch (c e) { return; } } throw a;", d -> d.after(4, d.draw(2) == 1 ? NONE : A));
        walks("try (t) { return; }", d -> d.after(2, d.draw(2) == 1 ? ALL : NONE));
        walks("try (y, t) { }", d -> {
            int first = d.draw(2);
            int second = d.draw(2);
            return d.after(1, first == 1 ? ALL : second == 1 ? C : NONE);
        });
        walks("try (y) { throw all; }", d -> {
            d.draw(2);
            return d.after(2, ALL);
        });
        walks("try (y) { throw a; } catch (c e) { throw loose; }", d -> {
            d.draw(2);
            return d.after(2, A);
        });
    }

    /** "caught by the first catch that has a KIND which it is below" */
    private void caughtByTheFirst() {
        walks("try { throw b; } catch (c e) { throw loose; } catch (zz | b e) { throw c; } catch (a e) { throw all; }", d -> d.after(3, C));
        walks("try { throw b; } catch (c | plain e) { throw loose; } catch (b e) { throw all; }", d -> d.after(3, LOOSE));
        walks("try { throw a; } catch (b e) { throw loose; }", d -> d.after(2, A));
        walks("try { throw all; } catch (plain e) { throw a; } catch (error e) { throw b; }", d -> d.after(2, ALL));
        walks("try { throw b; } catch (b e) { throw c; } catch (c e) { throw all; }", d -> d.after(3, C));
        walks("try { do; } catch (all e) { throw a; } throw b;", d -> d.after(3, B));
        walks("try { return; } catch (all e) { throw a; } throw b;", d -> d.after(2, NONE));
        walks("try { try { throw b; } catch (c e) { } } catch (plain e) { throw e; }", d -> d.after(4, B));
    }

    /** "Then the finally: if it ends by a throw, break, return, that is so instead." */
    private void finallyInstead() {
        walks("try { throw a; } finally { throw b; }", d -> d.after(3, B));
        walks("try { throw a; } finally { return; }", d -> d.after(3, NONE));
        walks("loop { try { throw a; } finally { break; } } throw c;", d -> d.after(5, C));
        walks("loop { try { return; } finally { break; } } throw c;", d -> d.after(5, C));
        walks("try { throw a; } catch (b e) { } finally { do; }", d -> d.after(3, A));
        walks("try { throw a; } catch (a e) { throw b; } finally { throw c; }", d -> d.after(4, C));
        walks("try { throw a; } catch (a e) { return; } finally { do; } throw b;", d -> d.after(4, NONE));
        walks("try { } finally { return; } throw a;", d -> d.after(2, NONE));
        walks("try (y) { } finally { throw b; }", d -> {
            d.draw(2);
            return d.after(2, B);
        });
    }

    /** Walks with seeds whose first three draws let a loop at the beginning have just 298 STEPS. */
    private void behind298(String behind, Walk walk) {
        long[] seeds = new long[24];
        int found = 0;
        for (long seed = 0; found < seeds.length; seed++) {
            Draws draws = new Draws(seed);
            if (draws.draw(2) == 0 && draws.draw(2) == 0 && draws.draw(2) == 1) {
                seeds[found] = seed;
                found++;
            }
        }
        walks("loop { " + "do; ".repeat(97) + "if { break; } } " + behind, seeds, d -> {
            d.draw(2);
            d.draw(2);
            d.draw(2);
            d.after(298, NONE);
            return walk.by(d);
        });
    }

    /** "The walk ends when the BLOCK does, or ahead of the 301st STEP." */
    private void ends299And300And301() {
        behind298("", d -> d.after(0, NONE));
        for (String last : new String[] {"do;", "return;", "run { do; };", "{ }", "if { }", "set zz;", "throw zz;", "break;", "call zz { do; };", "call z;"}) {
            behind298(last, d -> d.after(1, NONE));
            behind298("do; " + last, d -> d.after(2, NONE));
            behind298("do; do; " + last, d -> d.after(2, ENDLESS));
        }
        behind298("throw b;", d -> d.after(1, B));
        behind298("do; throw b;", d -> d.after(2, B));
        behind298("do; do; throw b;", d -> d.after(2, ENDLESS));
        behind298("do; return; do;", d -> d.after(2, NONE));
        behind298("{ do; } do;", d -> d.after(2, ENDLESS));
    }

    private void emptyBlocksBehindTheLastStep() {
        behind298("do; { }", d -> d.after(2, NONE));
        behind298("do; { do; }", d -> d.after(2, ENDLESS));
        behind298("do; if { do; } else { }", d -> d.after(2, d.draw(2) == 1 ? ENDLESS : NONE));
        behind298("do; call m { };", d -> d.after(2, NONE));
        behind298("do; call m { do; };", d -> d.after(2, d.draw(2) == 1 ? ENDLESS : NONE));
        behind298("do; call n { do; };", d -> d.after(2, d.draw(2) == 1 ? ENDLESS : d.draw(2) == 1 ? B : NONE));
    }

    private void callsAreNoStepsThemselves() {
        behind298("do; call x;", d -> d.after(2, d.thrownByX()));
        behind298("do; call x; do;", d -> {
            int end = d.thrownByX();
            return d.after(2, end == NONE ? ENDLESS : end);
        });
        behind298("do; try (x) { }", d -> d.after(2, d.thrownByX()));
        behind298("try (x) { do; }", d -> d.after(2, d.thrownByX()));
        behind298("do; try (x) { do; }", d -> d.after(2, ENDLESS));
        behind298("try (x) { do; } catch (all e) { }", d -> d.after(2, NONE));
        behind298("try (x) { do; } catch (all e) { do; }", d -> d.after(2, d.thrownByX() == NONE ? NONE : ENDLESS));
    }

    /** "a while, a loop also each time that it begins again" */
    private void loopsAtTheLastStep() {
        behind298("while { }", d -> {
            if (d.draw(2) == 0) {
                return d.after(1, NONE);
            }
            return d.after(2, d.draw(2) == 0 ? NONE : ENDLESS);
        });
        behind298("do; while { }", d -> d.after(2, d.draw(2) == 0 ? NONE : ENDLESS));
        behind298("do; while { return; }", d -> d.after(2, d.draw(2) == 0 ? NONE : ENDLESS));
        behind298("while { return; }", d -> d.draw(2) == 0 ? d.after(1, NONE) : d.after(2, NONE));
        behind298("loop { break; }", d -> d.after(2, NONE));
        behind298("loop { break; } do;", d -> d.after(2, ENDLESS));
        behind298("do; loop { break; }", d -> d.after(2, ENDLESS));
        behind298("loop { }", d -> d.after(2, ENDLESS));
        behind298("loop { throw b; }", d -> d.after(2, B));
    }

    private void tryAtTheLastStep() {
        behind298("try { throw a; } catch (a e) { }", d -> d.after(2, NONE));
        behind298("try { throw a; } catch (a e) { throw e; }", d -> d.after(2, ENDLESS));
        behind298("try { throw a; } finally { }", d -> d.after(2, A));
        behind298("try { throw a; } finally { return; }", d -> d.after(2, ENDLESS));
        behind298("try { return; } finally { do; }", d -> d.after(2, ENDLESS));
        behind298("try { do; do; } finally { }", d -> d.after(2, ENDLESS));
        behind298("try { do; do; } catch (all e) { } finally { }", d -> d.after(2, ENDLESS));
        behind298("try { } finally { throw b; }", d -> d.after(2, B));
    }

    private void endlessLoops() {
        for (String text : new String[] {"loop { }", "loop { do; }", "loop { break; } loop { do; do; }", "try { loop { } } finally { }", "try { loop { } } finally { return; }",
            "try { loop { } } catch (all e) { } finally { throw a; }", "try (z) { loop { } }", "loop { loop { } break; }", "loop { try { throw a; } catch (a e) { } }",
            "loop { try { return; } finally { loop { } } }", "try { throw a; } catch (a e) { loop { } } finally { return; }", "loop { throw zz; set zz; call zz; }"}) {
            walks(text, d -> d.after(300, ENDLESS));
        }
        // The METHODS in the ( ) are not called any more, so that none of them throws.
        walks("try (w, w, w, w) { loop { } }", d -> d.after(300, ENDLESS));
    }

    /** "BAD: there is no such METHOD, or it has no BLOCK." */
    private void noSuchMethod() {
        probe.fresh();
        probe.due("walk(0, 0) of a new object", probe.x.walk(0, 0), BAD);
        probe.both(() -> {
            probe.due("read", probe.read("way f; way g { do; throw loose; } way h;"), 3);
            for (int far : Probe.FAR) {
                probe.due("walk(" + far + ", 1)", probe.x.walk(far, 1), BAD);
            }
            probe.due("walk(3, 1)", probe.x.walk(3, 1), BAD);
            probe.due("walk(0, 1), without a BLOCK", probe.x.walk(0, 1), BAD);
            probe.due("walk(2, 1), without a BLOCK", probe.x.walk(2, 1), BAD);
            probe.due("walk(1, 1)", probe.x.walk(1, 1), LOOSE);
            probe.due("read of nothing", probe.x.read(), 0);
            probe.due("walk(1, 1) of nothing", probe.x.walk(1, 1), BAD);
        });
    }

    private void firstAndLastMethod() {
        probe.both(() -> {
            probe.due("read", probe.read("way f { throw all; }" + "way g { }".repeat(10) + "way f { throw error; }"), 12);
            probe.due("walk(0, 5)", probe.x.walk(0, 5), 0);
            probe.due("walk(10, 5)", probe.x.walk(10, 5), NONE);
            probe.due("steps()", probe.x.steps(), 0);
            probe.due("walk(11, 5)", probe.x.walk(11, 5), 3);
            probe.due("walk(12, 5)", probe.x.walk(12, 5), BAD);
        });
        String kinds = "kind a below plain;".repeat(11) + "kind k below all;";
        probe.both(() -> {
            probe.due("read", probe.read(kinds + "way f{throw k;}way g{call h;}way h throws k,k,k,k;"), 3);
            probe.due("walk of the last KIND", probe.x.walk(0, 5), 15);
            for (long seed : SEEDS) {
                probe.due("walk(1, " + seed + ")", probe.x.walk(1, seed), new Draws(seed).draw(5) == 0 ? NONE : 15);
            }
        });
    }

    /** "How many STEPS the latest walk had; 0 without.": a walk that was refused is none, and other calls are none. */
    private void stepsOfTheLatestWalk() {
        probe.fresh();
        probe.due("steps() without", probe.x.steps(), 0);
        probe.due("read", probe.read("way f { do; do; } way g { loop { } } way h { } way i;"), 4);
        probe.due("steps() without, behind a read", probe.x.steps(), 0);
        int[] methods = {0, 1, 0, 2, 1, 2, 0};
        int[] steps = {2, 300, 2, 0, 300, 0, 2};
        for (int n = 0; n < methods.length; n++) {
            probe.x.walk(methods[n], n);
            probe.due("steps() of a walk of METHOD " + methods[n], probe.x.steps(), steps[n]);
            probe.due("steps() again", probe.x.steps(), steps[n]);
            probe.due("walk(3, 0)", probe.x.walk(3, 0), BAD);
            probe.due("walk(-1, 0)", probe.x.walk(-1, 0), BAD);
            probe.due("steps() behind walks that were refused", probe.x.steps(), steps[n]);
        }
        probe.find("f");
        probe.read("way");
        probe.due("steps() behind a wrong text", probe.x.steps(), 2);
        probe.due("read of another text", probe.read("way f { }"), 1);
        probe.due("steps() behind a right text", probe.x.steps(), 2);
        probe.x.walk(0, 0);
        probe.due("steps() of the latest walk", probe.x.steps(), 0);
    }

    private void walksLeaveTheUnit() {
        probe.both(() -> {
            probe.due("read", probe.read("way f { try { throw loose; } catch (plain e) { set e; throw e; } } way g { return; }"), 2);
            probe.due("walk(0, 1)", probe.x.walk(0, 1), 1);
            probe.tape("loose");
            String before = probe.state();
            probe.due("walk(0, 2)", probe.x.walk(0, 2), 1);
            probe.due("the state behind a walk with as many STEPS", probe.state(), before);
            probe.due("find of what stayed", probe.x.find(), 102);
        });
    }

    private void walksAreAlike() {
        probe.both(() -> {
            probe.due("read", probe.read(KINDS + WAYS.replace("@", "while { try { call w; } catch (a e) { if { set e; throw e; } } if { call x; } }")), 9);
            StringBuilder first = new StringBuilder();
            StringBuilder again = new StringBuilder();
            for (long seed : SEEDS) {
                first.append(probe.x.walk(0, seed)).append(' ').append(probe.x.steps()).append(' ');
            }
            for (long seed : SEEDS) {
                again.append(probe.x.walk(0, seed)).append(' ').append(probe.x.steps()).append(' ');
            }
            probe.due("walks with the same seeds", again.toString(), first.toString());
        });
    }
}
