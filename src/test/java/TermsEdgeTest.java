/** Part 2 of the terms at its edges, sentence by sentence: what is known where, what is unknown, CAN THROW and LEFT. */
public final class TermsEdgeTest {
    private static final String KINDS = "kind a below plain; kind b below a; kind c below a; kind d below plain; kind l below loose; kind r below error; ";
    private static final String WAYS = "way m free; way n free throws d; way x throws a; way y throws b, d; way z; way u throws loose, error; ";
    private static final String START = KINDS + WAYS + "way f { ";

    private final Probe probe = new Probe("TermsEdgeTest");

    public static void main(String[] args) {
        TermsEdgeTest test = new TermsEdgeTest();
        test.knownAnywhere();
        test.kindsFromTheirSemicolonOn();
        test.methodsAnywhere();
        test.parametersInTheirBlock();
        test.whatANameIs();
        test.unknownKinds();
        test.unknownMethods();
        test.unknownThrowsAndSets();
        test.setSomewhereInTheBlock();
        test.notSet();
        test.throwsOfNoneAndOfOne();
        test.throwsOfWhatStandsInside();
        test.variableWithoutLambda();
        test.variableOfOneKind();
        test.variableOfMore();
        test.variableOfNotFree();
        test.thrownAgainWhenSet();
        test.thrownAgainOutOfNothing();
        test.thrownAgainBehindOthers();
        test.thrownAgainAboveAndBelow();
        test.tryCatchesWhatIsBelow();
        test.tryHolds();
        test.finallyLeftOrNot();
        test.leftPlainly();
        test.leftIf();
        test.leftLoops();
        test.heldBreaks();
        test.leftTry();
        test.leftBlock();
        test.probe.end();
    }

    /** "all, plain, loose, error are known anywhere" */
    private void knownAnywhere() {
        probe.mistakes("way f throws all, plain, loose, error { try { throw all; } catch (error | loose e) { } catch (plain e) { } catch (all e) { } "
            + "run { throw plain; } throws all; throw error; } kind a below loose;");
    }

    /** "a told KIND from its ; on" */
    private void kindsFromTheirSemicolonOn() {
        probe.mistakes("kind a below <1>a; kind b below a; kind c below <1>d; kind d below c;");
        probe.mistakes("way f throws <1>a; kind a below loose; way g throws a;");
        probe.mistakes("way f { throw <1>a; } kind a below loose; way g { throw a; }");
        probe.mistakes("way f { try { } catch (<1>a e) { } } kind a below loose; way g { try { } catch (a e) { } }");
        probe.mistakes("way f { run { } throws <1>a; } kind a below loose; way g { run { } throws a; }");
        probe.right("way f throws a { throw a; } kind a below loose; way g throws a { throw a; }", 2);
        probe.due("method(0, 2)", probe.x.method(0, 2), 0);
        probe.due("method(0, 3)", probe.x.method(0, 3), 0);
        probe.due("method(1, 2)", probe.x.method(1, 2), 16);
        probe.due("method(1, 3)", probe.x.method(1, 3), 16);
        // What a METHOD ahead calls may throw a KIND that is told behind it.
        probe.judged("way f { <+a>call g; <+a>try (g) { } } kind a below plain; way g throws a;");
    }

    /** "METHODS anywhere" */
    private void methodsAnywhere() {
        probe.mistakes("way f over h { call h; try (h, f) { call f; } } way g over g; way h over f;");
        probe.right("way f over h; way g over g; way h over f;", 3);
        probe.due("method(0, 6)", probe.x.method(0, 6), 2);
        probe.due("method(1, 6)", probe.x.method(1, 6), 1);
        probe.due("method(2, 6)", probe.x.method(2, 6), 0);
        probe.judged("way f { <+plain>call g; } way g throws plain; way g throws all; way h { <+plain>call g; <+plain>try (g) { } }");
    }

    /** "the PARAMETER of a catch .. in its BLOCK" */
    private void parametersInTheirBlock() {
        probe.mistakes("way f { try { set <1>e; } catch (loose e) { set e; { if { set e; } } } catch (error o) { set <1>e; set o; } finally { set <1>e; set <1>o; } "
            + "set <1>e; }");
        probe.mistakes("way f { try { throw <1>e; } catch (loose e) { throw e; } finally { if { throw <1>e; } } } way g { throw <1>e; }");
        probe.mistakes("way f { try { } catch (loose e) { try { set e; } catch (loose o) { set e; set o; } finally { set e; set <1>o; } set e; set <1>o; } }");
        probe.mistakes("way f { try { } catch (loose e) { run { throw e; }; call <1>e { throw e; }; } }");
    }

    /** "What a NAME is": a NAME that is a KIND, a METHOD and a PARAMETER means what its place wants. */
    private void whatANameIs() {
        probe.mistakes("kind f below loose; way f over f throws f { call f; throw f; <7>set <1>f; try (f) { } catch (f f) { set f; throw f; } }");
        probe.judged(KINDS + WAYS + "way f { <+>try { <-b>throw b; } catch (a d) { } <-b>try { <-b>throw b; } catch (a d) { <-b>throw d; } <-d>throw d; }");
        probe.mistakes("way q; way f over <1>plain { call <1>plain; throw <1>q; <7>try (<1>loose) { } catch (<1>q e) { throw <1>q; } }");
        probe.mistakes("way q throws <1>q; kind k below <1>q; way f { try { } catch (loose e) { run { } throws <1>e; try (<1>e) { } call <1>e; } }");
        // The PARAMETER comes first, also ahead of all and plain.
        probe.judged("way f { <+loose>try { } catch (loose all) { <-loose>throw all; } <-all>throw all; }");
    }

    /** "Where it is unknown .. it counts for nothing: the new KIND is below plain" */
    private void unknownKinds() {
        probe.right("kind a below zz; kind b below b; kind c below d; kind d below error;", 0);
        int[] parents = {1, 1, 1, 3};
        for (int k = 4; k < 8; k++) {
            probe.due("kind(" + k + ", 0)", probe.x.kind(k, 0), parents[k - 4]);
            probe.due("kind(" + k + ", 1)", probe.x.kind(k, 1), k == 7 ? 0 : 1);
        }
        probe.right("way f throws zz, yy; way g throws zz, loose, yy, error;", 2);
        probe.due("method(0, 3)", probe.x.method(0, 3), 0);
        probe.due("method(1, 3)", probe.x.method(1, 3), 12);
        probe.judged("way f { <-plain>try { <-plain>throw plain; } catch (zz e) { <->throw e; } <+>try { <-plain>throw plain; } catch (zz | all e) { } }");
        probe.judged("way g throws zz; way f { <+>call g; <+>try (g) { } }");
    }

    /** "the METHOD is over none, a call can throw nothing" */
    private void unknownMethods() {
        probe.right("kind a below plain; way f over zz throws a;", 1);
        probe.due("method(0, 6)", probe.x.method(0, 6), ThrowRules.NONE);
        probe.due("told(3)", probe.x.told(3), 1);
        probe.judged(START + "<+>call zz; <+>call zz { <-b>throw b; }; <+>try (zz, zz) { } <+a>try (zz, x) { } }");
        probe.mistakes("way f { call <1>zz { }; try (<1>zz, f, <1>zz) { } }");
    }

    /** "so can a throw": nothing, and it can not be LEFT all the same. */
    private void unknownThrowsAndSets() {
        probe.judged("way f { <+>set zz; <+>if { <->throw zz; } <->throw zz; }");
        probe.mistakes("way f { set <1>zz; throw <1>zz; <7>do; }");
    }

    /** "A PARAMETER is SET, if some set in that BLOCK names it": ahead, behind, deep inside, in a LAMBDA. */
    private void setSomewhereInTheBlock() {
        for (String set : new String[] {"<+>set e;", "<+>if { <+>set e; }", "<+>if { } else { <+>set e; }", "<+>while { <+>set e; }", "<+>{ <+>{ <+>set e; } }",
            "<+>run { <+>set e; };", "<+loose>call m { <+>set e; };", "<+>call zz { <+>set e; };", "<+>try { <+>set e; } finally { }",
            "<+>try { } catch (loose o) { <+>set e; }", "<+>try { } finally { <+>set e; }"}) {
            String more = set.contains("call m") ? ",loose" : "";
            probe.judged(START + "<+plain" + more + ">try { <+b,d>call y; } catch (plain e) { " + set + " <-plain>throw e; } }");
            probe.judged(START + "<+plain" + more + ">try { <+b,d>call y; } catch (plain e) { <+plain>if { <-plain>throw e; } " + set + " } }");
        }
    }

    /** A set of another PARAMETER, of the same NAME too, does not make it SET. */
    private void notSet() {
        probe.judged(START + "<+b,d,loose>try { <+b,d>call y; } catch (plain e) { <+>try { } catch (loose o) { <+>set o; } <-b,d,loose>throw e; } }");
        probe.judged(START + "<+b,d,loose>try { <+b,d>call y; } catch (plain e) { <+>try { } catch (loose e) { <+>set e; } <-b,d,loose>throw e; } }");
        probe.judged(START + "<+b,d,loose>try { <+>set e; <+b,d>call y; } catch (plain e) { <-b,d,loose>throw e; } finally { <+>set e; } }");
        probe.judged(START + "<+b,d,loose,error>try { <+b,d>call y; } catch (plain e) { <-b,d,loose>throw e; } catch (all e) { <+>set e; <-error>throw error; } }");
        probe.judged(START + "<+b,d,loose>try { <+b,d>call y; } catch (plain e) { <-b,d,loose>try { } catch (plain e) { <-loose>throw e; } "
            + "finally { <+>set q; <-b,d,loose>throw e; } } }");
    }

    /** "do, set, break, return, run: none. call: the KINDS behind the METHOD's throws .. throw of a KIND: that." */
    private void throwsOfNoneAndOfOne() {
        probe.judged(START + "<+>do; <+>set e; <->break; <->return; <+>run { <-a>throw a; } throws a; <+>run { <+b,d>call y; }; }");
        probe.judged(START + "<+>call z; <+a>call x; <+b,d>call y; <+loose,error>call u; }");
        for (String kind : new String[] {"all", "plain", "loose", "error", "a", "b", "l", "r"}) {
            probe.judged(START + "<-" + kind + ">throw " + kind + "; }");
        }
        probe.judged("kind a below plain;".repeat(11) + "kind k below plain; way f throws k, all, error, a; way g { <+all,error,a,k>call f; <-k>throw k; }");
    }

    /** "if, while, loop, BLOCK: what their STATEMENTS can throw": all of them, also behind one that can not be LEFT. */
    private void throwsOfWhatStandsInside() {
        for (String one : new String[] {"<+@>if { # }", "<+@>if { } else { # }", "<+@>while { # }", "<-@>loop { # }", "<-@>{ # }"}) {
            probe.judged(START + one.replace("@", "").replace("#", "<->return;") + " }");
            probe.judged(START + one.replace("@", "b").replace("#", "<-b>throw b;") + " }");
            probe.judged(START + one.replace("@", "a,b,d").replace("#", "<+b,d>call y; <->return; <-a>throw a;") + " }");
            probe.right(START + Probe.bare(one).replace("#", "call y; return; throw a;") + " }", 7);
            probe.due("method(6, 2) with " + one, probe.x.method(6, 2), probe.set("a,b,d"));
        }
        probe.judged(START + "<+a,b,c,d>if { <+b,d>call y; } else { <+a>call x; <-c>throw c; } }");
    }

    /** "if it is free, also its VARIABLE: .. else loose" */
    private void variableWithoutLambda() {
        probe.judged(START + "<+loose>call m; <+loose>call m { }; <+loose,d>call n; <+loose,d>call n { <+>do; }; }");
        probe.judged(START + "<+loose>call m { <-l>throw l; }; <+loose>call m { <+loose,error>call u; }; <+loose>call m { <-r>throw r; }; }");
        probe.judged(START + "<+loose>call m { <->throw zz; }; <+loose>call m { <+>run { <-a>throw a; }; }; <+loose>call m { <+>call z { <-a>throw a; }; }; }");
    }

    private void variableOfOneKind() {
        for (String kind : new String[] {"all", "plain", "a", "b", "d"}) {
            probe.judged(START + "<+" + kind + ">call m { <-" + kind + ">throw " + kind + "; }; }");
            probe.judged(START + "<+" + kind + ">call m { <+" + kind + ">if { <-" + kind + ">throw " + kind + "; } <-l>throw l; }; }");
        }
        probe.judged(START + "<+d>call n { <-d>throw d; }; <+b,d>call n { <-b>throw b; }; }");
    }

    /** "the one KIND that all of these are below and that is itself below all others such" */
    private void variableOfMore() {
        String[][] rows = {{"a", "b", "a"}, {"b", "a", "a"}, {"b", "c", "a"}, {"b", "d", "plain"}, {"a", "d", "plain"}, {"plain", "b", "plain"}, {"all", "b", "all"},
            {"all", "plain", "all"}, {"b", "b", "b"}, {"r", "b", "b"}, {"l", "d", "d"}};
        for (String[] row : rows) {
            probe.judged(START + "<+" + row[2] + ">call m { <+" + row[0] + ">if { <-" + row[0] + ">throw " + row[0] + "; } <-" + row[1] + ">throw " + row[1] + "; }; }");
        }
        probe.judged(START + "<+plain>call m { <+plain>call m { <-b>throw b; <-d>throw d; }; <-c>throw c; }; }");
        probe.judged("kind a below all; kind b below a; kind c below plain; way m free; way f { <+all>call m { <-b>throw b; <-c>throw c; }; }");
    }

    private void variableOfNotFree() {
        probe.judged(START + "<+>call z { <-b>throw b; }; <+a>call x { <-d>throw d; }; <+>call z; }");
        // The METHODS in the ( ) of a try close with their throws alone.
        probe.judged(START + "<+>try (m) { } <+d>try (n, m) { } }");
    }

    /** "throw of a PARAMETER that is SET: all KINDS of its catch" */
    private void thrownAgainWhenSet() {
        probe.judged(START + "<+a>try { } catch (a e) { <+>set e; <-a>throw e; } }");
        probe.judged(START + "<+a,d,l,r>try { } catch (a | d | l | r e) { <+>set e; <-a,d,l,r>throw e; } }");
        probe.judged(START + "<+>try { } catch (zz e) { <+>set e; <->throw e; } }");
        probe.judged(START + "<+d>try { } catch (a e) { } catch (zz | d e) { <+>set e; <-d>throw e; } }");
        probe.judged(START + "<+a>try { } catch (a e) { } catch (a e) { <+>set e; <-a>throw e; } }");
    }

    /** "let T be what the try can throw inside, and loose, error": with nothing inside just these two. */
    private void thrownAgainOutOfNothing() {
        String[][] rows = {{"all", "loose,error"}, {"plain", "loose"}, {"loose", "loose"}, {"error", "error"}, {"l", "l"}, {"r", "r"}, {"a", ""}, {"zz", ""},
            {"l | r", "l,r"}, {"loose | l", "loose,l"}, {"a | l", "l"}, {"all | plain", "loose,error"}};
        for (String[] row : rows) {
            probe.judged(START + "<+" + row[1] + ">try { } catch (" + row[0] + " e) { <-" + row[1] + ">throw e; } }");
        }
    }

    /** "those of T go that are below a KIND of a catch ahead of this one" */
    private void thrownAgainBehindOthers() {
        String[][] rows = {{"loose", "b,d,error"}, {"error", "b,d,loose"}, {"plain", "error"}, {"all", ""}, {"b", "d,loose,error"}, {"a", "d,loose,error"},
            {"c", "b,d,loose,error"}, {"l", "b,d,loose,error"}, {"zz", "b,d,loose,error"}, {"b | d", "loose,error"}};
        for (String[] row : rows) {
            probe.judged(START + "<+" + row[1] + ">try { <+b,d>call y; } catch (" + row[0] + " e) { } catch (all e) { <-" + row[1] + ">throw e; } }");
        }
        probe.judged(START + "<+error>try { <+b,d>call y; } catch (b e) { } catch (d e) { } catch (loose e) { } catch (all e) { <-error>throw e; } }");
        // Those of a catch behind stay, as do those of another try.
        probe.judged(START + "<+b,d,loose>try { <+b,d>call y; } catch (plain e) { <-b,d,loose>throw e; } catch (b e) { } }");
        probe.judged(START + "<+b,d,loose>try { } catch (plain o) { <+b,d,loose>try { <+b,d>call y; } catch (plain e) { <-b,d,loose>throw e; } } }");
    }

    /** "K, if K is below A; else A, if A is below K" */
    private void thrownAgainAboveAndBelow() {
        String[][] rows = {{"a", "a", "a", ""}, {"a", "b", "b", "a"}, {"b", "a", "b", ""}, {"b", "c", "", "b"}, {"b", "plain", "b,loose", ""}, {"a", "b | c", "b,c", "a"},
            {"plain", "b | d | l", "b,d,l", "plain"}, {"b", "b | a", "b", ""}, {"all", "error", "error", "all"}, {"all", "a | r", "a,r", "all"}, {"l", "loose", "l,loose", ""}};
        for (String[] row : rows) {
            String both = row[2].isEmpty() || row[3].isEmpty() ? row[2] + row[3] : row[2] + "," + row[3];
            probe.judged(START + "<-" + both + ">try { <-" + row[0] + ">throw " + row[0] + "; } catch (" + row[1] + " e) { <-" + row[2] + ">throw e; } }");
        }
    }

    /** "those of INSIDE that are below no KIND of its catches" */
    private void tryCatchesWhatIsBelow() {
        String[][] rows = {{"b", "d"}, {"a", "d"}, {"plain", ""}, {"all", ""}, {"d", "b"}, {"c", "b,d"}, {"loose", "b,d"}, {"b | d", ""}, {"zz", "b,d"}, {"c | d", "b"}};
        for (String[] row : rows) {
            probe.judged(START + "<+" + row[1] + ">try { <+b,d>call y; } catch (" + row[0] + " e) { } }");
        }
        probe.judged(START + "<+a>try { <+a>call x; } catch (b e) { } catch (c e) { } }");
        // What a catch throws is caught by none of its own try.
        probe.judged(START + "<-b>try { <-b>throw b; } catch (b e) { <-b>throw b; } catch (a e) { <->return; } }");
    }

    /** "and those behind the throws of the METHODS in its ( )" */
    private void tryHolds() {
        probe.judged(START + "<+a,b,d,loose,error>try (x, y, z, u) { } <+>try (z) { } <+a>try (x, x, x, x) { } }");
        probe.judged(START + "<+d>try (y) { } catch (b e) { } <+b,c>try (y) { <-c>throw c; } catch (d e) { } }");
        probe.mistakes(KINDS + WAYS + "way <9:4>f { try (x) { } catch (b e) { } try (x) { } catch (<3:7>d e) { } try (z) { } catch (<3:4>a e) { } }");
    }

    /** "with a finally that can not be LEFT only what that can throw, with another one that, too" */
    private void finallyLeftOrNot() {
        probe.judged(START + "<+b,d>try { <+b,d>call y; } finally { } <+a,b,d>try { <+b,d>call y; } finally { <+a>call x; } }");
        probe.judged(START + "<->try { <+b,d>call y; } finally { <->return; } <-a>try { <+b,d>call y; } finally { <-a>throw a; } }");
        probe.judged(START + "<->try { <-a>throw a; } catch (a e) { <-c>throw c; } finally { <->loop { } } }");
        probe.judged(START + "<->try { <-a>throw a; } finally { <->throw zz; } <->try (y) { } finally { <->break; } }");
        probe.judged(START + "<-a,c>try { <-a>throw a; } finally { <+c>if { <-c>throw c; } } <-c>try { <-a>throw a; } finally { <+c>if { <-c>throw c; } <->return; } }");
    }

    /** "LEFT can be: do, call, set, while, run, if without else; not throw, break, return." */
    private void leftPlainly() {
        probe.judged(START + "<+>do; <+a>call x; <+>set e; <+>while { <->return; } <+>run { <->return; }; <+>if { <->return; } <+loose>call m { <->return; }; "
            + "<-l>throw l; <->break; <->return; }");
        probe.judged(START + "<+>while { <->loop { } } <+>while { <->break; } <+>run { <->loop { } }; }");
    }

    /** "if with else: if one of both BLOCKS can" */
    private void leftIf() {
        probe.judged(START + "<+>if { } else { } <+>if { <->return; } else { } <+>if { } else { <->return; } <->if { <->return; } else { <->return; } }");
    }

    /** "loop: if a break belongs to it (the innermost while or loop around, within one LAMBDA, METHOD)" */
    private void leftLoops() {
        probe.judged(START + "<->loop { } <+>loop { <->break; } <->loop { <->return; } <+>loop { <->return; <->break; } }");
        probe.judged(START + "<->loop { <+>loop { <->break; } } <->loop { <+>while { <->break; } } <+>loop { <+>while { } <->break; } }");
        probe.judged(START + "<->loop { <+>run { <->break; }; } <-loose>loop { <+loose>call m { <->break; }; } <->loop { <+>run { <+>loop { <->break; } }; } }");
        for (String around : new String[] {"<+>if { @ }", "<+>if { } else { @ }", "<->{ @ }", "<->try (z) { @ }", "<+>try { } catch (loose e) { @ }",
            "<->try { } finally { @ }", "<->try { @ } finally { }"}) {
            probe.judged(START + "<+>loop { " + around.replace("@", "<->break;") + " } }");
            probe.judged(START + "<->loop { " + around.replace("@", "<->return;") + " } }");
        }
    }

    /** "held by no finally: a try around the break, within the loop, whose finally can not be LEFT and does not have the break in itself" */
    private void heldBreaks() {
        for (String last : new String[] {"<->return;", "<->throw zz;", "<->loop { }", "<+>do; <->return;", "<->{ <->return; }"}) {
            probe.judged(START + "<->loop { <->try { <->break; } finally { " + last + " } } }");
            probe.judged(START + "<->loop { <->try { } catch (loose e) { <->break; } finally { " + last + " } } }");
            probe.judged(START + "<->loop { <->try { <->try { <->break; } finally { } } finally { " + last + " } } }");
            probe.judged(START + "<->loop { <->try { <->try { } finally { <->break; } } finally { " + last + " } } }");
            probe.judged(START + "<->loop { <->try { <->if { <->break; } else { <->break; } } finally { " + last + " } } }");
            probe.judged(START + "<+>loop { <->try { <->break; } finally { <+>if { <->break; } " + last + " } } }");
            probe.judged(START + "<+>loop { <->try { <->break; } finally { " + last + " } <->break; } }");
            // A try around the loop holds none.
            probe.judged(START + "<->try { <+>loop { <->break; } } finally { " + last + " } }");
        }
        for (String last : new String[] {"", "<+>do;", "<+>if { <->return; }", "<+>while { }", "<+>loop { <->break; }"}) {
            probe.judged(START + "<+>loop { <->try { <->break; } finally { " + last + " } } }");
        }
        // A finally that has a break of the loop can not be LEFT, but it holds the breaks of its BLOCK, not its own.
        probe.judged(START + "<+>loop { <->try { <->return; } finally { <->break; } } }");
        probe.judged(START + "<+>loop { <->try { } finally { <->try { <->return; } finally { <->break; } } } }");
        probe.judged(START + "<->loop { <->try { } finally { <->try { <->break; } finally { <->return; } } } }");
    }

    /** "try: if its BLOCK or a BLOCK of its catches can, and the finally, if there is one" */
    private void leftTry() {
        probe.judged(START + "<+>try (z) { } <->try (z) { <->return; } }");
        probe.judged(START + "<+>try { } catch (loose e) { <->return; } <+>try { <->return; } catch (loose e) { } <->try { <->return; } catch (loose e) { <->return; } }");
        probe.judged(START + "<+>try { <->return; } catch (loose e) { <->return; } catch (error e) { <->return; } catch (all e) { } }");
        probe.judged(START + "<+>try { } finally { } <->try { } finally { <->return; } <->try { <->return; } finally { } }");
        probe.judged(START + "<->try { <->return; } catch (loose e) { } finally { <->return; } <+>try { <->return; } catch (loose e) { } finally { } }");
    }

    /** "BLOCK: if it has no STATEMENTS, or the last one can" */
    private void leftBlock() {
        probe.judged("way f { <+>{ } <->{ <->return; } <+>{ <->return; <+>do; } <->{ <+>do; <->return; } <+>{ <+>{ } } <->{ <->{ <->return; } } }");
        probe.right("way f { } way g { return; } way h { return; do; } way i { do; return; } way j;", 5);
        int[] left = {1, 0, 1, 0, 0};
        for (int m = 0; m < left.length; m++) {
            probe.due("method(" + m + ", 4)", probe.x.method(m, 4), left[m]);
        }
    }
}
