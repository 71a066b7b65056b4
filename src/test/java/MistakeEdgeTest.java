/** Part 3 of the terms at its edges, code by code. MISTAKES stand in the texts as <code:kind>. */
public final class MistakeEdgeTest {
    private static final String KINDS = "kind a below plain; kind b below a; kind c below a; kind d below all; kind l below loose; kind r below error; ";
    private static final String WAYS = "way m free; way x throws a; way y throws b; way z; way u throws loose, error; way p throws plain; way q throws all; ";
    private static final String START = KINDS + WAYS;

    private final Probe probe = new Probe("MistakeEdgeTest");

    public static void main(String[] args) {
        MistakeEdgeTest test = new MistakeEdgeTest();
        test.noMistakes();
        test.unknownAtEveryPlace();
        test.takenByKinds();
        test.takenByMethods();
        test.takenByParametersAround();
        test.oneMoreAllTheSame();
        test.neverThrownButAllAndPlain();
        test.neverThrownAboveAndBelow();
        test.neverThrownInside();
        test.caughtAhead();
        test.doubledInOneCatch();
        test.setOfTwoOrMore();
        test.rightBehindOneThatIsNotLeft();
        test.strayBreaks();
        test.untoldByMethods();
        test.untoldForEachKind();
        test.untoldByRuns();
        test.widerThanOver();
        test.lambdaUnwanted();
        test.setInALambda();
        test.throwInALambda();
        test.byPlacesThenCodesThenKinds();
        test.probe.end();
    }

    private void noMistakes() {
        probe.mistakes("");
        probe.mistakes("way f;");
        probe.mistakes("way f { }");
        probe.mistakes(START + "way f over x throws b { try { call y; } catch (b e) { throw e; } finally { do; } }");
    }

    /** 1: the place is the NAME's, each unknown one is told. */
    private void unknownAtEveryPlace() {
        probe.mistakes("kind a below <1>zz; way f over <1>zz throws <1>zz, <1>zz, <1>zz, <1>zz { call <1>zz; call <1>zz { }; set <1>zz; try (<1>zz, <1>zz, <1>zz, <1>zz) { } "
            + "try { } catch (<1>zz | <1>zz | <1>zz | <1>zz zz) { set <6>zz; } run { } throws <1>zz, <1>zz, <1>zz, <1>zz; throw <1>zz; }");
        probe.mistakes("way f throws plain, <1>g, <1>e; way g { try (<1>plain, g) { } catch (loose e) { call <1>e; } }");
    }

    /** 2: "a NAME of a KIND that a KIND known before has" */
    private void takenByKinds() {
        probe.mistakes("kind <2>all below all; kind <2>plain below all; kind <2>loose below all; kind <2>error below all;");
        probe.mistakes("kind a below loose; kind b below loose; kind <2>a below b; kind <2>a below a;");
        probe.mistakes("way a; way f { try { } catch (loose b) { } } kind a below loose; kind b below loose; kind <2>b below <1>f;");
    }

    private void takenByMethods() {
        probe.mistakes("way f; way <2>f { } way g; way <2>f over f; way <2>g;");
        probe.mistakes("kind f below loose; way f; way plain; way <2>plain; way e { try { } catch (loose f) { } }");
        probe.mistakes("way a { call a; } way b { } way <2>a { }");
    }

    /** 2: "of a PARAMETER that a PARAMETER around has": not one beside it. */
    private void takenByParametersAround() {
        probe.mistakes("way f { try { } catch (loose e) { } catch (error e) { } finally { } try { } catch (loose e) { } } way g { try { } catch (loose e) { } }");
        probe.mistakes("way f { try { try { } catch (loose e) { } } catch (loose e) { } finally { try { } catch (loose e) { } } }");
        probe.mistakes("way f { try { } catch (loose e) { try { } catch (loose o) { try { } catch (loose <2>e) { } catch (error <2>o) { } } } }");
        probe.mistakes("way f { try { } catch (loose e) { run { try { } catch (loose <2>e) { } }; if { } else { try { } catch (loose <2>e) { } } } }");
        probe.mistakes("way f { try { } catch (loose e) { try { } catch (loose <2>e) { try { } catch (loose <2>e) { } } } }");
        probe.mistakes("kind e below loose; way e { try { } catch (e e) { } try { } catch (loose loose) { } }");
    }

    /** "Such a KIND, METHOD is one more all the same, but its NAME means the first; that PARAMETER is meant in its BLOCK." */
    private void oneMoreAllTheSame() {
        probe.right("kind a below plain; kind a below loose; way f throws a; way f throws error { throw a; } way g over f { call f; }", 3);
        probe.due("told(0)", probe.x.told(0), 6);
        probe.due("kind(5, 0)", probe.x.kind(5, 0), 2);
        probe.due("method(0, 3)", probe.x.method(0, 3), 16);
        probe.due("method(1, 2)", probe.x.method(1, 2), 16);
        probe.due("method(1, 3)", probe.x.method(1, 3), 8);
        probe.due("method(2, 2)", probe.x.method(2, 2), 16);
        probe.due("method(2, 6)", probe.x.method(2, 6), 0);
        probe.judged("way f { <-loose,error>try { <-loose>throw loose; } catch (loose e) { <-error>try { <-error>throw error; } catch (error e) { <-error>throw e; } "
            + "<-loose>throw e; } finally { } }");
    }

    /** 3: "a CHECKED KIND in a catch, but all, plain" */
    private void neverThrownButAllAndPlain() {
        probe.mistakes(START + "way f { try { } catch (loose e) { } catch (error e) { } catch (plain e) { } catch (all e) { } }");
        probe.mistakes(START + "way f { try { } catch (l | r e) { } }");
        probe.mistakes(START + "way f { try { } catch (<3:4>a e) { } try { } catch (<3:5>b e) { } try { } catch (<3:7>d e) { } }");
        probe.mistakes("kind <2>plain below all; way f { try { } catch (plain e) { } }");
    }

    /** 3: "INSIDE has no CHECKED KIND that is below it or that it is below" */
    private void neverThrownAboveAndBelow() {
        probe.mistakes(START + "way f { try { call x; } catch (a e) { } try { call y; } catch (a e) { } }");
        probe.mistakes(START + "way <9:4>f { try { call x; } catch (b e) { } try { call x; } catch (c e) { } }");
        probe.mistakes(START + "way <9:5>f { try { call y; } catch (<3:6>c e) { } try { call y; } catch (<3:7>d e) { } }");
        probe.mistakes(START + "way <9:1>f { try { call p; } catch (a e) { } try { call p; } catch (<3:7>d e) { } }");
        probe.mistakes(START + "way <9:0>f { try { call q; } catch (a e) { } try { call q; } catch (d e) { } try { call q; } catch (c e) { } }");
        probe.mistakes(START + "way f { try { call u; } catch (<3:4>a e) { } try { throw l; } catch (<3:7>d e) { } }");
    }

    /** INSIDE is all that the BLOCK can throw and the ( ), whatever a catch ahead takes. */
    private void neverThrownInside() {
        probe.mistakes(START + "way f { try { call y; } catch (b e) { } catch (a e) { } }");
        probe.mistakes(START + "way f { try (y) { } catch (b e) { } catch (a e) { } try (z) { } catch (<3:5>b e) { } }");
        probe.mistakes(START + "way f { try { call y; } catch (plain e) { } catch (<4:5>b e) { } }");
        probe.mistakes(START + "way f { try { } catch (<3:4>a e) { } finally { try { call x; } catch (a e) { } } }");
        probe.mistakes(START + "way <9:4>f { try { } catch (loose e) { throw a; } catch (<3:4>a e) { } }");
        probe.mistakes(START + "way f { try { run { throw a; } throws a; call z <11>{ throw a; }; } catch (<3:4>a e) { } }");
        probe.mistakes(START + "way f { try { call m { throw a; }; } catch (a e) { } }");
        probe.mistakes(START + "way f { try { try { call x; } finally { return; } } catch (<3:4>a e) { } }");
        probe.mistakes(START + "way f { try { return; <7>throw a; } catch (a e) { } }");
    }

    /** 4: "a KIND in a catch that is below one of a catch ahead of it" */
    private void caughtAhead() {
        probe.mistakes(START + "way f { try { call x; } catch (a e) { } catch (<4:4>a e) { } catch (<4:5>b e) { } catch (<4:6>c e) { } }");
        probe.mistakes(START + "way f { try { call x; } catch (b e) { } catch (c e) { } catch (a e) { } catch (plain e) { } }");
        probe.mistakes(START + "way f { try { call x; } catch (b | c e) { } catch (a e) { } catch (<4:5>b | <4:6>c e) { } }");
        probe.mistakes(START + "way f { try { } catch (loose e) { } catch (error e) { } catch (<4:8>l | <4:9>r e) { } }");
        probe.mistakes(START + "way f { try { } catch (all e) { } catch (<4:0>all e) { } catch (<4:1>plain e) { } catch (<4:3>error e) { } }");
        probe.mistakes(START + "way f { try { } catch (<1>zz e) { } catch (<1>zz e) { } }");
        // Of another try, around or inside, none is ahead.
        probe.mistakes(START + "way f { try { try { } catch (l e) { } } catch (l e) { try { } catch (l <2>e) { } } finally { try { } catch (l e) { } } }");
    }

    /** 5: "a KIND in a catch that is below one ahead of it in the same catch, or that one below it" */
    private void doubledInOneCatch() {
        probe.mistakes(START + "way f { try { call x; } catch (a | <5:4>a e) { } }");
        probe.mistakes(START + "way f { try { call x; } catch (a | <5:5>b e) { } try { call x; } catch (b | <5:4>a e) { } }");
        probe.mistakes(START + "way <9:4>f { try { call x; } catch (b | c e) { } }");
        probe.mistakes(START + "way f { try { call x; } catch (b | c | <5:4>a | <5:5>b e) { } }");
        probe.mistakes(START + "way f { try { } catch (l | r | <5:2>loose | <5:3>error e) { } }");
        probe.mistakes(START + "way f { try { } catch (l | <1>zz | <5:8>l | <1>zz e) { } }");
        probe.mistakes(START + "way f { try { } catch (r e) { } catch (l | <4:9>r e) { } }");
        probe.mistakes(START + "way f { try { } catch (loose | <5:1>plain | <5:0>all | <5:3>error e) { } }");
    }

    /** 6: "a set of a PARAMETER whose catch has two NAMES of KINDS or more, known or not (at its NAME)" */
    private void setOfTwoOrMore() {
        probe.mistakes("way f { try { } catch (loose e) { set e; } try { } catch (<1>zz e) { set e; } }");
        probe.mistakes("way f { try { } catch (loose | error e) { set <6>e; if { set   <6>e; } } }");
        probe.mistakes("way f { try { } catch (<1>zz | <1>zy e) { set <6>e; } try { } catch (loose | <1>zz e) { set <6>e; } }");
        probe.mistakes("way f { try { } catch (loose | <5:2>loose e) { set <6>e; } try { } catch (loose | error | <1>z | <1>z e) { set <6>e; } }");
        probe.mistakes("way f { try { } catch (loose | error e) { } catch (<4:2>loose e) { set e; } }");
        probe.mistakes("way f { try { } catch (loose e) { try { } catch (loose | error o) { set e; set <6>o; } } }");
    }

    /** 7: "a STATEMENT right behind one that can not be LEFT (at its first TOKEN)" */
    private void rightBehindOneThatIsNotLeft() {
        for (String one : new String[] {"do;", "call g;", "throw loose;", "if { }", "while { }", "loop { }", "return;", "try { } finally { }", "run { };", "{ }"}) {
            probe.mistakes("way g; way f { return;  <7>" + one + " }");
            probe.mistakes("way g; way f { if { return; } " + one + " }");
        }
        for (String last : new String[] {"throw loose;", "return;", "loop { }", "{ return; }", "if { return; } else { return; }", "try { return; } finally { }"}) {
            probe.mistakes("way f { " + last + " }");
            probe.mistakes("way f { " + last + " <7>do; do; }");
            probe.mistakes("way f { do; " + last + " <7>" + last + " <7>" + last + " }");
            probe.mistakes("way f { while { " + last + " <7>do; } run { " + last + " <7>do; }; do; }");
        }
        probe.mistakes("way f { while { break; <7>do; } loop { break; } do; loop { if { break; } } do; loop { while { break; } } <7>do; }");
        probe.mistakes("way f { return; <7>{ do; } if { return; <7>do; do; } }");
        probe.mistakes("way f { return; } way g { do; }");
        probe.mistakes("way f { if { return; } else { do; } do; }");
    }

    /** 8: "a break that belongs to none" */
    private void strayBreaks() {
        probe.mistakes("way f { <8>break; }");
        probe.mistakes("way f { if { <8>break; } if { } else { <8>break; } { <8>break; } }");
        probe.mistakes("way f { while { break; } loop { { if { break; } } } while { } <8>break; }");
        probe.mistakes("way f { while { run { <8>break; }; run { while { break; } if { <8>break; } }; break; } }");
        probe.mistakes("way m free { while { call m { <8>break; }; call m { loop { break; } }; } }");
        probe.mistakes("way f { while { try (f) { break; } catch (loose e) { break; } finally { break; } } try { <8>break; } finally { <8>break; } }");
        probe.mistakes("way f { while { } } way g { <8>break; }");
    }

    /** 9: "at a METHOD's NAME ..: a CHECKED KIND that its BLOCK can throw, and that is below none of its throws" */
    private void untoldByMethods() {
        probe.mistakes(START + "way <9:4>f { throw a; } way g throws a { throw a; } way h throws plain { throw a; } way i throws all { throw a; }");
        probe.mistakes(START + "way <9:4>f throws b { throw a; } way g throws a { throw b; } way <9:5>h throws c { throw b; } way <9:4>i throws loose, error, d { throw a; }");
        probe.mistakes(START + "way f { throw loose; } way g { throw error; } way h { throw l; } way i { throw r; } way j { call u; }");
        probe.mistakes(START + "way <9:0>f throws plain { throw all; } way <9:1>g throws a, b, d { throw plain; }");
        probe.mistakes(START + "way <9:4>f throws <1>zz { throw a; } way g throws <1>zz, a, <1>zz { throw a; }");
        probe.mistakes(START + "way f { run { throw a; } throws a; call z <11>{ throw a; }; } way <9:4>g { call m { throw a; }; }");
        probe.mistakes(START + "way <9:4>f { return; <7>throw a; }");
        probe.mistakes(START + "way <9:4>f { throw a; } way <2,9:5>f throws c { throw b; }");
    }

    /** 9: "(one for each such KIND)" */
    private void untoldForEachKind() {
        StringBuilder text = new StringBuilder();
        StringBuilder thrown = new StringBuilder();
        StringBuilder codes = new StringBuilder("9:0,9:1");
        for (char c = 'a'; c <= 'l'; c++) {
            text.append("kind ").append(c).append(" below plain;");
            thrown.insert(0, "if{throw " + c + ";}");
            codes.append(",9:").append(c - 'a' + 4);
        }
        thrown.append("if{throw plain;}if{throw loose;}if{throw a;}throw all;");
        probe.mistakes(text + "way <" + codes + ">f{" + thrown + "}");
        probe.mistakes(text + "way <9:0>f throws plain{" + thrown + "}");
        probe.mistakes(text + "way f throws all{" + thrown + "}");
        probe.mistakes(text + "way f throws all{<" + codes + ">run{" + thrown + "};}");
        probe.mistakes(text + "way f throws all{<" + codes.toString().replace(",9:15", "") + ">run{" + thrown + "}throws l;}");
    }

    /** 9: "at a run" */
    private void untoldByRuns() {
        probe.mistakes(START + "way f throws a { <9:4>run { throw a; }; run { throw a; } throws a; run { throw b; } throws a; <9:4>run { throw a; } throws b; }");
        probe.mistakes(START + "way f { <9:4>run { run { throw b; } throws b; throw a; }; run { throw l; }; }");
        probe.mistakes(START + "way f { run { <9:5>run { throw b; }; }; <9:4,9:5>run { if { throw b; } throw a; } throws c; }");
    }

    /** 10: "a CHECKED KIND behind the throws of a METHOD that is over another one: below none of that one's throws" */
    private void widerThanOver() {
        probe.mistakes(START + "way f over x throws a, b, c, l; way g over y throws <10:4>a, b, <10:6>c; way h over z throws <10:4>a, <10:4>a;");
        probe.mistakes(START + "way f over p throws plain, a, <10:7>d, <10:0>all; way g over q throws all, plain, a, d;");
        probe.mistakes(START + "way f over z throws loose, error, l, r; way g over u throws l, r, <10:1>plain;");
        probe.mistakes(START + "way f over <1>zz throws a; way g over g throws a; way h throws a;");
        probe.mistakes(START + "way f over x throws <10:1>plain { throw plain; } way g over x throws <1>zz { }");
        // It is over the first one of that NAME alone, and not over what that one is over.
        probe.mistakes(START + "way f over y; way g over f throws <10:5>b; way <2>x; way h over x throws a;");
        probe.mistakes("way g over f throws plain; way f throws plain; way <2>f;");
    }

    /** 11: "the { of a call's BLOCK, if the METHOD is known and not free" */
    private void lambdaUnwanted() {
        probe.mistakes(START + "way f { call m { }; call z  <11>{ }; call <1>zz { }; call z; call m { call f<11>{ }; }; }");
        probe.mistakes("way f { call g { }; } way g free; way <2>g; way h { call i <11>{ }; } way i; way <2>i free;");
    }

    /** 12: "behind set .. in a LAMBDA: a PARAMETER of a catch around that LAMBDA" */
    private void setInALambda() {
        probe.mistakes(START + "way f { try { } catch (loose e) { set e; run { set <12>e; }; call m { if { set <12>e; } }; } }");
        probe.mistakes(START + "way f { run { try { } catch (loose e) { set e; { set e; } } }; }");
        probe.mistakes(START + "way f { try { } catch (loose e) { run { run { set <12>e; }; }; } }");
        probe.mistakes(START + "way f { run { try { } catch (loose e) { run { set <12>e; }; set e; } }; }");
        probe.mistakes(START + "way f { try { } catch (loose e) { run { try { } catch (loose <2>e) { set e; } try { } catch (loose o) { set o; set <12>e; } }; } }");
        probe.mistakes(START + "way f { try { } catch (loose e) { call <1>zz { set <12>e; }; call z <11>{ set <12>e; }; } }");
    }

    /** 12: "at throw, if it is SET" */
    private void throwInALambda() {
        probe.mistakes(START + "way f { try { } catch (loose e) { run { throw e; }; call m { throw e; }; throw e; } }");
        probe.mistakes(START + "way f { try { } catch (loose e) { run { throw <12>e; }; set e; throw e; } }");
        probe.mistakes(START + "way f { try { } catch (loose e) { run { set <12>e; throw <12>e; }; throw e; } }");
        probe.mistakes(START + "way f { try { } catch (loose e) { run { try { } catch (loose o) { set o; throw o; } throw e; }; } }");
        probe.mistakes(START + "way f { try { } catch (loose e) { set e; run { throw loose; }; call m { run { throw <12>e; }; }; } }");
        probe.mistakes(START + "way f { try { } catch (loose e) { try { } catch (loose <2>e) { set e; } run { throw e; }; } }");
    }

    /** "by their places, of one place by codes, then by KINDS" */
    private void byPlacesThenCodesThenKinds() {
        probe.mistakes("kind <2>all below <1>zz; way <9:0,9:1>f { if { throw all; } throw plain; } way <2,9:0,9:1>f { if { throw plain; } throw all; }");
        probe.mistakes(START + "way f { try { } catch (<3:4>a e) { } catch (<3:5,4:5>b | <3:4,4:4,5:4>a | <3:4,4:4,5:4>a e) { } }");
        probe.mistakes(START + "way f { try { } catch (l | r e) { run { set <6,12>e; throw <12>e; <7>set <6,12>e; }; } }");
        probe.mistakes(START + "way f { return; <7,8>break; <7,9:4,9:7>run { if { throw d; } throw a; }; }");
        probe.mistakes(START + "way <2,9:4>x over z throws <10:7>d { throw a; } way f over <1>zz;");
    }
}
