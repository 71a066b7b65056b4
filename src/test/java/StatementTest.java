/** Promise 10: statement, and CAN THROW and LEFT of part 2 of the terms, which stand in the texts as <+kinds> and <-kinds>. */
public final class StatementTest {
    private static final String KINDS = "kind a below plain; kind b below a; kind c below a; kind d below plain; kind l below loose; ";
    private static final String WAYS = "way m free; way n free throws d, loose; way x throws a, zz; way y throws b, d; way z; ";

    public static void main(String[] args) {
        Probe probe = new Probe("StatementTest");
        numbers(probe);
        calls(probe);
        variables(probe);
        parameters(probe);
        tries(probe);
        finallies(probe);
        branches(probe);
        loops(probe);
        probe.end();
    }

    private static void numbers(Probe probe) {
        String text = "way f { do; call g { run { set e; } throws a; }; } way g; way h { try (g) { throw all; } catch (loose e) { set e; } "
            + "finally { return; } if { while { } } else { loop { break; } } { } }";
        probe.right(text, 3);
        String[] starts = {"do", "call", "run", "set", "try", "throw", "set", "return", "if", "while", "loop", "break", "{ } }"};
        int[] sorts = {0, 1, 10, 3, 9, 2, 3, 8, 4, 5, 6, 7, 11};
        int place = 0;
        for (int i = 0; i < sorts.length; i++) {
            place = text.indexOf(starts[i], place + 1);
            if (i == sorts.length - 1) {
                place = text.lastIndexOf("{ } }");
            }
            probe.due("statement(" + i + ", 0)", probe.x.statement(i, 0), sorts[i]);
            probe.due("statement(" + i + ", 1)", probe.x.statement(i, 1), place);
            probe.due("statement(" + i + ", 4)", probe.x.statement(i, 4), i < 4 ? 0 : 2);
        }
        probe.due("told(2)", probe.x.told(2), 13);
        int[] wrongNumbers = {-1, 13, Integer.MIN_VALUE, Integer.MAX_VALUE};
        for (int wrong : wrongNumbers) {
            for (int what = 0; what < 5; what++) {
                probe.due("statement(" + wrong + ", " + what + ")", probe.x.statement(wrong, what), ThrowRules.BAD);
            }
            probe.due("statement(0, " + wrong + ")", probe.x.statement(0, wrong), ThrowRules.BAD);
        }
        probe.due("statement(0, 5)", probe.x.statement(0, 5), ThrowRules.BAD);
    }

    private static void calls(Probe probe) {
        probe.judged(KINDS + WAYS + "way f { <+a>call x; <+b,d>call y; <+>call z; <+>call zz { <-b>throw b; }; <+>call later; } way later;");
        probe.judged(KINDS + WAYS + "way f { <+>do; <+>set e; <+>run { <-a>throw a; }; <->break; <->return; <->throw zz; <-l>throw l; }");
        probe.judged(KINDS + WAYS + "way f { <+a>call x { <-d>throw d; }; }");
        probe.judged(KINDS + WAYS + "way f { <+a>call x; } way x throws d;");
    }

    private static void variables(Probe probe) {
        probe.judged(KINDS + WAYS + "way f { <+loose>call m; <+loose>call m { }; <+loose,d>call n; }");
        probe.judged(KINDS + WAYS + "way f { <+b>call m { <-b>throw b; }; }");
        probe.judged(KINDS + WAYS + "way f { <+a>call m { <-b>throw b; <-c>throw c; }; }");
        probe.judged(KINDS + WAYS + "way f { <+a>call m { <-b>throw b; <-a>throw a; <-l>throw l; }; }");
        probe.judged(KINDS + WAYS + "way f { <+plain>call m { <-b>throw b; <-d>throw d; }; }");
        probe.judged(KINDS + WAYS + "way f { <+all>call m { <-b>throw b; <-all>throw all; }; }");
        probe.judged(KINDS + WAYS + "way f { <+loose>call m { <-l>throw l; <-error>throw error; }; }");
        probe.judged(KINDS + WAYS + "way f { <+loose,d,b>call n { <-b>throw b; }; }");
        probe.judged(KINDS + WAYS + "way f { <+plain>call m { <+plain>call m { <-b>throw b; <+b,d>call y; }; }; }");
        probe.judged(KINDS + WAYS + "way f { <+loose>call m { <+>run { <-b>throw b; }; }; }");
    }

    private static void parameters(Probe probe) {
        String start = KINDS + WAYS + "way f { ";
        probe.judged(start + "<+a>try { <+a>call x; } catch (a e) { <-a>throw e; } }");
        probe.judged(start + "<+a,b>try { <+a>call x; } catch (b e) { <-b>throw e; } }");
        probe.judged(start + "<+a,b,c>try { <+a>call x; } catch (b | c e) { <-b,c>throw e; } }");
        probe.judged(start + "<+b,d,loose>try { <+b,d>call y; } catch (plain e) { <-b,d,loose>throw e; } }");
        probe.judged(start + "<+b,d,loose,error>try { <+b,d>call y; } catch (all e) { <-b,d,loose,error>throw e; } }");
        probe.judged(start + "<+d,loose>try { <+b,d>call y; } catch (a e) { } catch (plain e) { <-d,loose>throw e; } }");
        probe.judged(start + "<+b,d,error>try { <+b,d>call y; } catch (loose e) { } catch (all e) { <-b,d,error>throw e; } }");
        probe.judged(start + "<+l>try { } catch (l e) { <-l>throw e; } }");
        probe.judged(start + "<+loose,l>try { } catch (l e) { <-l>throw e; } catch (loose e) { <-loose>throw e; } }");
        probe.judged(start + "<+>try { } catch (a e) { <->throw e; } }");
        probe.judged(start + "<+a>try { } catch (a e) { <-a>throw e; <+>set e; } }");
        probe.judged(start + "<+plain>try { <+b,d>call y; } catch (plain e) { <-plain>throw e; <+>run { <+>set e; }; } }");
        probe.judged(start + "<+b,d,l>try { <+b,d>call y; } catch (zz | b | l e) { <-b,l>throw e; <+>set e; } }");
        probe.judged(start + "<+c>try (y) { } catch (a | d e) { <+c>try { <-c>throw c; } catch (c e) { <-c>throw e; <+>set e; } } }");
        probe.judged(start + "<+b,d,loose>try { <+b,d>call y; } catch (plain e) { <-b,d,loose>try { <-c>throw c; } catch (c p) { <-b,d,loose>throw e; } } }");
        probe.judged(start + "<+b,d,loose>try { <+b,d>call y; } catch (plain b) { <-b,d,loose>throw b; } }");
        probe.judged(start + "<+plain>try { <+b,d>call y; } catch (plain e) { <+plain>call m { <-b,d,loose>throw e; }; } }");
    }

    private static void tries(Probe probe) {
        String start = KINDS + WAYS + "way f { ";
        probe.judged(start + "<+b,d>try (y) { } }");
        probe.judged(start + "<+d>try (m, n, zz) { } catch (loose e) { } }");
        probe.judged(start + "<+d>try (y) { <-c>throw c; } catch (a e) { } }");
        probe.judged(start + "<+a>try (x) { } catch (b | c e) { } }");
        probe.judged(start + "<-a>try (x) { <->return; } catch (b e) { <->return; } }");
        probe.judged(start + "<+a,d>try { <-a>throw a; } catch (zz e) { <-d>throw d; } catch (b e) { } }");
        probe.judged(start + "<+>try { <-a>throw a; } catch (a e) { } }");
        probe.judged(start + "<-l>try { <-b>throw b; } catch (plain e) { <-l>throw l; } catch (b e) { <->return; } }");
    }

    private static void finallies(Probe probe) {
        String start = KINDS + WAYS + "way f { ";
        probe.judged(start + "<+b,d>try { <+b,d>call y; } finally { <+>do; } }");
        probe.judged(start + "<+a,b,d>try { <+b,d>call y; } finally { <+a>call x; } }");
        probe.judged(start + "<->try { <+b,d>call y; } finally { <->return; } }");
        probe.judged(start + "<-a>try { <+b,d>call y; } catch (b e) { <-c>throw c; } finally { <+a>call x; <->return; } }");
        probe.judged(start + "<->try { <->return; } finally { } }");
        probe.judged(start + "<+>try { <->return; } catch (loose e) { } finally { } }");
        probe.judged(start + "<-l>try { } finally { <-l>throw l; } }");
    }

    private static void branches(Probe probe) {
        String start = KINDS + WAYS + "way f { ";
        probe.judged(start + "<+b>if { <-b>throw b; } <-b,c>if { <-b>throw b; } else { <-c>throw c; } <+c>if { } else { <-c>throw c; } }");
        probe.judged(start + "<+b>if { <-b>throw b; } else { } <+b>while { <-b>throw b; } <+>{ } <-b,c>{ <-b>throw b; <-c>throw c; } }");
        probe.judged(start + "<+b>{ <-b>throw b; <+>do; } <-a>loop { <+a>call x; } }");
        probe.judged("way f { <+>while { <->return; } <+>run { <->return; }; <->{ <->{ <->return; } } }");
    }

    private static void loops(Probe probe) {
        probe.judged("way f { <->loop { } <+>loop { <->break; } <->loop { <+>while { <->break; } } <->loop { <+>loop { <->break; } } }");
        probe.judged("way f { <->loop { <->return; } <+>loop { <+>if { <->{ <->break; } } } <+>loop { <->if { <->return; } else { <->break; } } }");
        probe.judged("way f free { <-loose>loop { <+loose>call f { <->break; }; <+>run { <->break; }; } }");
        probe.judged("way f { <->loop { <+>if { } } <->loop { <+>try (f) { } } <->loop { <+>{ } } <->loop { <+>if { } else { } } }");
        probe.judged("way f { <->loop { <+>try { } catch (loose e) { } } <+>loop { <->try (f) { <->break; } } }");
        probe.judged("way f { <->loop { <->try { <->break; } finally { <->return; } } }");
        probe.judged("way f { <+>loop { <->try { <->break; } finally { } } }");
        probe.judged("way f { <+>loop { <->try { <->break; } finally { <->break; } } }");
        probe.judged("way f { <->loop { <->try { } catch (loose e) { <->break; } finally { <->return; } } }");
        probe.judged("way f { <+>loop { <+>try { } catch (loose e) { <->break; } finally { <+>do; } } }");
        probe.judged("way f { <->loop { <->try { <->try { } finally { <->break; } } finally { <->return; } } }");
        probe.judged("way f { <+>loop { <->try { } finally { <->try { } finally { <->break; } } } }");
        probe.judged("way f { <->loop { <->try { } finally { <->try { <->break; } finally { <->return; } } } }");
        probe.judged("way f { <->loop { <->try { <->break; } finally { <->loop { } } } }");
        probe.judged("way f { <->try { <+>loop { <->break; } } finally { <->return; } }");
        probe.judged("way f { <+>loop { <->try { <->break; } finally { <->return; } <+>if { <->break; } } }");
        probe.judged("way f { <-loose>loop { <-loose>try { <->break; } finally { <+>loop { <->break; } <-loose>throw loose; } } }");
    }
}
