/** Promises 5 and 6: told and mistake, and part 3 of the terms. MISTAKES stand in the texts as <code:kind>. */
public final class MistakeTest {
    private static final String KINDS = "kind a below plain; kind b below a; kind c below plain; kind l below loose; ";

    public static void main(String[] args) {
        Probe probe = new Probe("MistakeTest");
        unknownNames(probe);
        takenNames(probe);
        catchesThatNeverCatch(probe);
        setsOfMany(probe);
        neverReached(probe);
        strayBreaks(probe);
        untoldKinds(probe);
        widerThanOver(probe);
        lambdasAndCaptures(probe);
        order(probe);
        edges(probe);
        probe.end();
    }

    private static void unknownNames(Probe probe) {
        probe.mistakes("kind a below <1>a;");
        probe.mistakes("kind a below <1>b; kind b below plain;");
        probe.mistakes("way f throws <1>a; kind a below plain; way g throws a;");
        probe.mistakes("way f over <1>h; way g over i; way i;");
        probe.mistakes("way f { call g; call <1>h { throw <1>zz; }; try (g, <1>h) { } } way g;");
        probe.mistakes("way f { throw <1>g; } way g;");
        probe.mistakes("way f { throw <1>a; } kind a below loose; way g { throw a; }");
        probe.mistakes("way f { try { throw <1>e; } catch (<1>zz e) { } finally { set <1>e; } }");
        probe.mistakes("way f { set <1>e; set <1>plain; run { } throws <1>zz, plain; }");
        probe.mistakes("way f { try { } catch (loose e) { set e; } catch (error o) { set <1>e; } }");
        probe.mistakes("kind m below <1>f; way f over m; way m throws <1>f;");
    }

    private static void takenNames(Probe probe) {
        probe.mistakes("kind <2>plain below all; kind a below loose; kind <2>a below error;");
        probe.mistakes("way f; way <2>f; way a; kind a below loose; way <2>f;");
        probe.mistakes("way f { try { } catch (loose e) { try { } catch (loose <2>e) { } } catch (error e) { } }");
        probe.mistakes("way f { try { } catch (loose e) { run { try { } catch (loose <2>e) { } }; } }");
        probe.mistakes("way f { try { try { } catch (loose e) { } } catch (loose e) { } finally { try { } catch (loose e) { } } }");
        probe.mistakes("way f { try { } catch (loose f) { try { } catch (loose loose) { throw loose; } } }");
    }

    private static void catchesThatNeverCatch(Probe probe) {
        String start = KINDS + "way x throws a; way y throws b; way z throws loose; way w throws c; ";
        probe.mistakes(start + "way f { try { } catch (<3:4>a e) { } catch (l e) { } catch (plain e) { } catch (all e) { } }");
        probe.mistakes(start + "way f { try { call x; } catch (b e) { } catch (a e) { } }");
        probe.mistakes(start + "way f { try { call y; } catch (a e) { } catch (<4:5>b e) { } }");
        probe.mistakes(start + "way f { try { call z; } catch (<3:4>a e) { } catch (<3:6>c e) { } }");
        probe.mistakes(start + "way f { try (x) { } catch (<3:6>c e) { } catch (a e) { } }");
        probe.mistakes(start + "way f { try { throw plain; } catch (c e) { } catch (plain e) { } }");
        probe.mistakes(start + "way f { try { call w; } catch (c e) { } catch (<4:6>c e) { } catch (<4:6>c e) { } }");
        probe.mistakes(start + "way f { try { run { throw a; } throws a; } catch (<3:4>a e) { } }");
        probe.mistakes(start + "way f { try { try { call x; } catch (a e) { } } catch (<3:4>a e) { } }");
        probe.mistakes(start + "way f { try { } catch (all e) { } catch (<4:2>loose e) { } catch (<4:3>error e) { } }");
        probe.mistakes(start + "way f { try { call x; } catch (b | <5:4>a e) { } }");
        probe.mistakes(start + "way f { try { call x; } catch (a | <5:5>b | l | <5:7>l e) { } }");
        probe.mistakes(start + "way f { try { call x; } catch (a e) { } catch (<3:6>c | <4:5>b | <4:4,5:4>a e) { } }");
        probe.mistakes(start + "way f { try { } catch (<3:4>a e) { } catch (<3:5,4:5>b | <3:5,4:5,5:5>b e) { } }");
        probe.mistakes(start + "way f { try { } catch (<1>zz | <1>zz e) { } }");
    }

    private static void setsOfMany(Probe probe) {
        probe.mistakes("way f { try { } catch (loose | error e) { set <6>e; set <6>e; } }");
        probe.mistakes("way f { try { } catch (loose | <1>zz e) { set <6>e; } }");
        probe.mistakes("way f { try { } catch (loose e) { set e; } }");
        probe.mistakes("way f { try { } catch (loose | error e) { try { } catch (loose p) { set p; set <6>e; } } }");
        probe.mistakes("way f { try { } catch (loose | error e) { try { } catch (loose <2>e) { set e; } } }");
    }

    private static void neverReached(Probe probe) {
        probe.mistakes("way f { return; <7>do; do; throw loose; <7>{ } }");
        probe.mistakes("way f { loop { } <7>do; }");
        probe.mistakes("way f { loop { break; } do; while { } do; }");
        probe.mistakes("way f { if { return; } do; if { return; } else { } do; if { return; } else { return; } <7>do; }");
        probe.mistakes("way f { { return; } <7>{ return; } <7>return; }");
        probe.mistakes("way f { try { return; } finally { } <7>do; }");
        probe.mistakes("way f { try { } catch (loose e) { } finally { return; } <7>do; }");
        probe.mistakes("way f free { run { return; <7>do; }; call f { return; }; do; }");
        probe.mistakes("way f { throw <1>zz; <7>do; }");
    }

    private static void strayBreaks(Probe probe) {
        probe.mistakes("way f { <8>break; }");
        probe.mistakes("way f { while { if { break; } } loop { break; } if { <8>break; } }");
        probe.mistakes("way f free { loop { call f { <8>break; }; run { <8>break; }; run { loop { break; } }; break; } }");
        probe.mistakes("way f { while { } try { <8>break; } catch (loose e) { <8>break; } finally { <8>break; } }");
        probe.mistakes("way f { while { try { break; } catch (loose e) { break; } finally { break; } } }");
    }

    private static void untoldKinds(Probe probe) {
        probe.mistakes("way <9:0>f { throw all; }");
        probe.mistakes(KINDS + "way <9:1,9:4,9:5>f { if { throw b; } if { throw a; } if { throw plain; } if { throw loose; } throw l; }");
        probe.mistakes(KINDS + "way <9:1>f throws a { if { throw b; } if { throw a; } throw plain; }");
        probe.mistakes(KINDS + "way f throws all { if { throw b; } throw a; }");
        probe.mistakes(KINDS + "way <9:4>f throws <1>zz { throw a; } way g throws a;");
        probe.mistakes(KINDS + "way f { <9:4>run { throw a; }; run { throw b; } throws c, a; <9:4,9:6>run { if { throw c; } throw a; } throws loose; }");
        probe.mistakes(KINDS + "way f { throw error; }");
    }

    private static void widerThanOver(Probe probe) {
        probe.mistakes(KINDS + "way f over g throws <10:4>a, b, l, error; way g throws b;");
        probe.mistakes(KINDS + "way f over g throws <10:4>a, <10:4>a; way g;");
        probe.mistakes(KINDS + "way f over f throws a; way <2>f throws c; way h over f throws <10:6>c, b;");
        probe.mistakes(KINDS + "way f over <1>zz throws a;");
        probe.mistakes(KINDS + "way f over g throws <10:1>plain { } way g throws a, b, c; way h over f throws a;");
    }

    private static void lambdasAndCaptures(Probe probe) {
        probe.mistakes("way f free { call f { }; } way g { call g <11>{ }; call <1>h { }; call f { call g <11>{ }; }; }");
        probe.mistakes("way f free { try { } catch (loose e) { call f { set <12>e; }; throw e; } }");
        probe.mistakes("way f free { try { } catch (loose e) { call f { throw e; }; run { throw e; }; } }");
        probe.mistakes("way f free { try { } catch (loose e) { call f { throw <12>e; }; set e; } }");
        probe.mistakes("way f free { try { } catch (loose | error e) { call f { set <6,12>e; throw <12>e; }; } }");
        probe.mistakes("way f free { call f { try { } catch (loose e) { set e; throw e; } }; }");
        probe.mistakes("way f free { call f { try { } catch (loose e) { run { set <12>e; }; throw e; } }; }");
        probe.mistakes("way f { try { } catch (loose e) { run { run { set <12>e; }; try { } catch (loose <2>e) { set e; throw e; } }; } }");
    }

    private static void order(Probe probe) {
        probe.mistakes("way <9:0,9:1>f { if { throw plain; } throw all; } way <2,9:1>f { throw plain; }");
        probe.mistakes(KINDS + "way f { return; <7,8>break; <7,9:4,9:6>run { if { throw c; } throw a; }; }");
        probe.mistakes(KINDS + "way f { try { } catch (<3:5>b | <3:4,5:4>a e) { } catch (<3:5,4:5>b e) { } }");
    }

    private static void edges(Probe probe) {
        probe.mistakes("way <9:1>f { throw plain; <7>do; }");
        Counted x = probe.x;
        probe.due("told(0)", x.told(0), 4);
        probe.due("told(1)", x.told(1), 1);
        probe.due("told(2)", x.told(2), 2);
        probe.due("told(3)", x.told(3), 2);
        probe.tape("abc");
        probe.due("told(4)", x.told(4), 3);
        int[] wrongNumbers = {-1, 5, Integer.MIN_VALUE, Integer.MAX_VALUE};
        for (int wrong : wrongNumbers) {
            probe.due("told(" + wrong + ")", x.told(wrong), ThrowRules.BAD);
            probe.due("mistake(" + wrong + ", 0)", x.mistake(wrong, 0), ThrowRules.BAD);
            probe.due("mistake(0, " + wrong + ")", x.mistake(0, wrong), ThrowRules.BAD);
        }
        probe.due("mistake(2, 0)", x.mistake(2, 0), ThrowRules.BAD);
        probe.due("mistake(0, 3)", x.mistake(0, 3), ThrowRules.BAD);
        probe.due("mistake(0, 0)", x.mistake(0, 0), 9);
        probe.due("mistake(0, 1)", x.mistake(0, 1), 4);
        probe.due("mistake(0, 2)", x.mistake(0, 2), 1);
        probe.due("mistake(1, 0)", x.mistake(1, 0), 7);
        probe.due("mistake(1, 1)", x.mistake(1, 1), 21);
        probe.due("mistake(1, 2)", x.mistake(1, 2), ThrowRules.NONE);
    }
}
