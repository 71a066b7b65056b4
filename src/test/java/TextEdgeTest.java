/** Part 1 of the terms and promise 4 at their edges, sentence by sentence; each text is read twice, by an object after other calls and by a new one. */
public final class TextEdgeTest {
    private static final String[] KEYWORDS = ("kind below way over free throws do call throw set if else while loop break"
        + " return try catch finally run").split(" ");
    /** Each place where a NAME stands, as @. */
    private static final String[] NAME_PLACES = {"kind @ below plain;", "kind a below @;", "way @;", "way f over @;", "way f throws @;", "way f throws a,@;",
        "way f{call @;}", "way f{call @{};}", "way f{throw @;}", "way f{set @;}", "way f{try(@){}}", "way f{try(f,@){}}", "way f{try{}catch(@ e){}}",
        "way f{try{}catch(a|@ e){}}", "way f{try{}catch(a @){}}", "way f{run{}throws @;}", "way f{run{}throws a,@;}"};
    /** STATEMENTS of every sort, by their first TOKENS. */
    private static final String[] EVERY_SORT = {"do;", "call f;", "call f{};", "throw a;", "set e;", "if{}", "if{}else{}", "while{}", "loop{}", "break;", "return;",
        "try(f){}", "try{}catch(a e){}", "try{}finally{}", "run{};", "run{}throws a;", "{}"};

    private final Probe probe = new Probe("TextEdgeTest");

    public static void main(String[] args) {
        TextEdgeTest test = new TextEdgeTest();
        test.emptyTexts();
        test.everyByteAlone();
        test.everyByteBehindAName();
        test.blanksBetweenTokens();
        test.wordsOfOneToEight();
        test.lettersThatStandTogether();
        test.keywordsAreNoNames();
        test.otherWordsAreNames();
        test.whatMayBeMissing();
        test.wrongAtTheEnd();
        test.firstWrongTokenCounts();
        test.tryWithNeither();
        test.thirteenthKind();
        test.thirteenthMethod();
        test.statement121();
        test.statement121WhereverItStands();
        test.blocksOfOthersAreNoStatements();
        test.fifthNameOfThrows();
        test.fifthNameOfRunThrows();
        test.fifthNameOfTry();
        test.fifthNameOfCatch();
        test.fifthCatch();
        test.braceWithinEightOthers();
        test.everyBlockIsALevel();
        test.textsOf2000Bytes();
        test.lowestAndHighestPlaces();
        test.theUnitIsReplaced();
        test.theUnitStays();
        test.theTapeIsEmptyThen();
        test.probe.end();
    }

    private void emptyTexts() {
        probe.right("", 0);
        probe.right(" ", 0);
        probe.right("\n", 0);
        probe.right("\n \n\n  ".repeat(20), 0);
        probe.both(() -> {
            probe.due("read of the empty tape", probe.x.read(), 0);
            probe.due("told(0)", probe.x.told(0), 4);
            probe.due("told(2)", probe.x.told(2), 0);
            probe.due("told(3)", probe.x.told(3), 0);
        });
    }

    /** "Bytes 32, 10 stand anywhere", and no other one is a text. */
    private void everyByteAlone() {
        for (int c = 0; c < 256; c++) {
            if (c == 32 || c == 10) {
                probe.right(String.valueOf((char) c), 0);
            } else {
                probe.wrongAt(String.valueOf((char) c), 0);
            }
        }
    }

    /** "also a byte that begins none" */
    private void everyByteBehindAName() {
        for (int c = 0; c < 256; c++) {
            String text = "way f" + (char) c + ";";
            if (c == 32 || c == 10 || c >= 'a' && c <= 'z') {
                probe.right(text, 1);
            } else {
                probe.wrongAt(text, c == ';' || c == '{' ? 6 : 5);
            }
        }
    }

    private void blanksBetweenTokens() {
        String tokens = "kind a below plain ; way f over g free throws a , b { do ; call f { } ; throw a ; set e ; if { } else { } while { } loop { } "
            + "break ; return ; try ( f , g ) { } catch ( a | b e ) { } finally { } run { } throws a , b ; { } } way g ;";
        probe.right(tokens, 2);
        probe.right(tokens.replace(' ', '\n'), 2);
        probe.right(" \n" + tokens.replace(" ", " \n\n ") + "\n ", 2);
        probe.right(tokens.replaceAll(" (?=[{}();,|])", "").replaceAll("(?<=[{}();,|]) ", ""), 2);
    }

    /** "WORDS (a .. z, 1 to 8 ..)", "a WORD that is too long" */
    private void wordsOfOneToEight() {
        for (String place : NAME_PLACES) {
            int at = place.indexOf('@');
            String ahead = place.substring(0, at);
            String behind = place.substring(at + 1);
            int methods = place.startsWith("way") ? 1 : 0;
            for (String word : new String[] {"a", "z", "az", "azazaza", "abcdefgh", "zzzzzzzz"}) {
                probe.right(ahead + word + behind, methods);
            }
            for (String word : new String[] {"abcdefghi", "zzzzzzzzz", "aaaaaaaaaaaaaaaa", "abcdefgh".repeat(9)}) {
                probe.wrongAt(ahead + word + behind, at);
            }
        }
        probe.wrongAtMark("^wayyyyyyy f;");
        probe.wrongAtMark("way f { ^returnnnn; }");
        probe.wrongAtMark("way f { if { } ^elseelsee { } }");
        probe.wrongAtMark("^" + "z".repeat(2000));
    }

    /** "as many as stand together" */
    private void lettersThatStandTogether() {
        probe.wrongAtMark("^wayf;");
        probe.wrongAtMark("^kinda below plain;");
        probe.wrongAtMark("kind a ^belowb;");
        probe.wrongAtMark("way f ^freethrows a;");
        probe.wrongAtMark("way f { ^throwa; }");
        probe.wrongAtMark("way f { ^d o; }");
        probe.wrongAtMark("^w\u0000ay f;");
        probe.wrongAtMark("way a^B;");
        probe.right("way f{if{}else{}while{}loop{}try{}finally{}{}}", 1);
    }

    /** "KEYWORDS are ..": none of them is a NAME. */
    private void keywordsAreNoNames() {
        for (String place : NAME_PLACES) {
            for (String word : KEYWORDS) {
                probe.wrongAt(place.replace("@", word), place.indexOf('@'));
            }
        }
    }

    /** "other WORDS are NAMES": those just beside KEYWORDS, and the first four KINDS. */
    private void otherWordsAreNames() {
        for (String word : KEYWORDS) {
            probe.right("way " + word + "z;", 1);
            probe.right("way z" + word + ";", 1);
            // throws without its end is a KEYWORD, too.
            if (!word.equals("throws")) {
                probe.right("way " + word.substring(0, word.length() - 1) + ";", 1);
            }
        }
        for (String word : new String[] {"all", "plain", "loose", "error", "finallyy", "elseif"}) {
            for (String place : NAME_PLACES) {
                probe.right(place.replace("@", word), place.startsWith("way") ? 1 : 0);
            }
        }
    }

    /** "[ ] may be missing, { } any number of times" */
    private void whatMayBeMissing() {
        for (String over : new String[] {"", " over g"}) {
            for (String free : new String[] {"", " free"}) {
                for (String thrown : new String[] {"", " throws a", " throws a, b, c, d"}) {
                    probe.right("way f" + over + free + thrown + ";", 1);
                    probe.right("way f" + over + free + thrown + " { }", 1);
                }
            }
        }
        for (String held : new String[] {"", " (f)", " (f, f, f, f)"}) {
            for (String caught : new String[] {"", "catch (a e) { } ", "catch (a | b | c | d e) { } ".repeat(4)}) {
                for (String last : new String[] {"", "finally { } "}) {
                    if (!(held + caught + last).isEmpty()) {
                        probe.right("way f { try" + held + " { } " + caught + last + "}", 1);
                    }
                }
            }
        }
    }

    /** "or at its end (how many bytes there are)": a text that stops behind any TOKEN but those that end a KIND or METHOD. */
    private void wrongAtTheEnd() {
        String text = "kind a below plain ; way f over g free throws a , b { do ; call f { do ; } ; throw a ; set e ; if { } else { } while { } loop { break ; } "
            + "return ; try ( f , g ) { } catch ( a | b e ) { } finally { } try { } finally { } run { } throws a , b ; { } } way g ;";
        String bare = "";
        int depth = 0;
        for (String token : text.split(" ")) {
            bare = bare + token;
            depth += token.equals("{") ? 1 : token.equals("}") ? -1 : 0;
            boolean whole = depth == 0 && (token.equals(";") || token.equals("}"));
            for (String blanks : new String[] {"", " ", "\n\n ", " ".repeat(30)}) {
                int methods = (bare.contains("way f") ? 1 : 0) + (bare.contains("way g") ? 1 : 0);
                if (whole) {
                    probe.right(bare + blanks, methods);
                } else {
                    probe.wrongAt(bare + blanks, bare.length() + blanks.length());
                }
            }
            bare = bare + " ";
        }
    }

    /** "A text is wrong at its first TOKEN that can't stand": of two that can't, the first. */
    private void firstWrongTokenCounts() {
        probe.wrongAtMark("way f { do ^do ; ) A abcdefghi");
        probe.wrongAtMark("way ^A; kind B below C;");
        probe.wrongAtMark("way ^abcdefghi A");
        probe.wrongAtMark("way f { try { } ^; } way g throws a, b, c, d, e;");
        probe.wrongAtMark("kind a below plain;".repeat(12) + "way ^; kind b below plain;");
        probe.wrongAtMark("way f throws a, b, c, d, ^throws;");
        probe.wrongAtMark("way f throws a, b, c, d, ^, e;");
    }

    /** "at the TOKEN behind the BLOCK of a try with neither ( ), catch nor finally" */
    private void tryWithNeither() {
        for (String behind : new String[] {"do; }", "}", "", "A", "abcdefghi", "try { } finally { } }", "{ } }", "; }", "else { } }", "( f ) }"}) {
            probe.wrongAtMark("way f { try { } ^" + behind);
            probe.wrongAtMark("way f { try { do; }\n\n^" + behind);
        }
        probe.wrongAtMark("way f { try { try { } ^} finally { } }");
        probe.wrongAtMark("way f { try { } finally { try { } ^} }");
        probe.right("way f { try (f) { } }", 1);
        probe.right("way f { try { } catch (a e) { } }", 1);
        probe.right("way f { try { } finally { } }", 1);
    }

    /** "at the kind .. of the 13th KIND .. that is told" */
    private void thirteenthKind() {
        String twelve = "kind a below plain; ".repeat(6) + "kind b below zz; ".repeat(6);
        probe.right(twelve, 0);
        probe.due("told(0) of twelve", probe.x.told(0), 16);
        probe.wrongAtMark(twelve + "^kind c below plain;");
        probe.wrongAtMark(twelve + "^kind");
        probe.wrongAtMark(twelve + "way f { } ^kind c A");
        probe.wrongAtMark("way f; ".repeat(12) + twelve + "\n\n^kind c below plain; way f;");
        probe.right(twelve + "way f { } way g;", 2);
        probe.right(twelve + "way f; ".repeat(12), 12);
    }

    /** "at the .. way of the 13th .. METHOD that is told" */
    private void thirteenthMethod() {
        String twelve = "way f; ".repeat(6) + "way g { } ".repeat(6);
        probe.right(twelve, 12);
        probe.wrongAtMark(twelve + "^way h;");
        probe.wrongAtMark(twelve + "^way");
        probe.wrongAtMark(twelve + "kind a below plain; ^way h A");
        probe.wrongAtMark("kind a below plain; ".repeat(12) + twelve + "\n^way h; kind b below a;");
        probe.right(twelve + "kind a below plain; ".repeat(12), 12);
        probe.due("told(0)", probe.x.told(0), 16);
        probe.right("kind a below plain; way f; ".repeat(12), 12);
        probe.wrongAtMark("kind a below plain; way f; ".repeat(12) + "^way f;");
    }

    /** "at the first TOKEN of the 121st STATEMENT", of whatever sort. */
    private void statement121() {
        for (String one : EVERY_SORT) {
            probe.right("way f{" + "do;".repeat(119) + one + "}", 1);
            probe.due("told(2) with " + one, probe.x.told(2), 120);
            probe.wrongAtMark("way f{" + "do;".repeat(120) + "^" + one + "}");
        }
        probe.wrongAtMark("way f{" + "do;".repeat(120) + "\n ^do");
        probe.wrongAtMark("way f{" + "do;".repeat(120) + "^A");
        probe.wrongAtMark("way f{" + "do;".repeat(120) + "^");
    }

    /** STATEMENTS are counted over all METHODS and BLOCKS. */
    private void statement121WhereverItStands() {
        probe.right("way f{" + "do;".repeat(60) + "}way g;way h{" + "do;".repeat(60) + "}way i{}", 4);
        probe.wrongAtMark("way f{" + "do;".repeat(60) + "}way g;way h{" + "do;".repeat(60) + "}way i{^do;}");
        String many = "way f{" + "do;".repeat(119);
        for (String one : new String[] {"if{@}", "if{}else{@}", "while{@}", "loop{@}", "try{@}finally{}", "try{}catch(a e){@}", "try{}finally{@}", "call f{@};",
            "run{@};", "{@}"}) {
            probe.right(many + one.replace("@", "") + "}", 1);
            probe.wrongAtMark(many + one.replace("@", "^do;") + "}");
        }
        probe.right("way f{" + "{do;{}}".repeat(40) + "}", 1);
        probe.wrongAtMark("way f{" + "{do;{}}".repeat(40) + "^{do;{}}}");
    }

    /** "The BLOCKS of 1, 4, 5, 6, 9, 10 are no STATEMENTS themselves." */
    private void blocksOfOthersAreNoStatements() {
        for (String one : EVERY_SORT) {
            probe.right("way f{" + one.repeat(100) + "}", 1);
            probe.due("told(2) of 100 times " + one, probe.x.told(2), 100);
        }
        probe.right("way f{" + "if{}else{}".repeat(120) + "}", 1);
        probe.due("told(2) of 120 ifs", probe.x.told(2), 120);
        probe.wrongAtMark("way f{" + "if{}else{}".repeat(120) + "^if{}}");
        probe.right("way f { { } }", 1);
        probe.due("told(2) of a BLOCK in a BLOCK", probe.x.told(2), 1);
        probe.due("statement(0, 0)", probe.x.statement(0, 0), 11);
        probe.due("statement(0, 1)", probe.x.statement(0, 1), 8);
    }

    /** "at the 5th NAME of one throws" */
    private void fifthNameOfThrows() {
        probe.right("way f throws a, b, c, d;", 1);
        probe.wrongAtMark("way f throws a, b, c, d, ^e;");
        probe.right("way f throws zz, zz, zz, zz { }", 1);
        probe.wrongAtMark("way f throws zz, zz, zz, zz, ^zz { }");
        probe.wrongAtMark("way f throws a, b, c, d, ^A");
        probe.wrongAtMark("way f throws a, b, c, d, ^");
        probe.wrongAtMark("way f throws a, b, c, d ^e;");
        probe.right("way f throws a, b, c, d; way g throws a, b, c, d { }", 2);
    }

    private void fifthNameOfRunThrows() {
        probe.right("way f throws a, b, c, d { run { } throws a, b, c, d; run { } throws a, b, c, d; }", 1);
        probe.wrongAtMark("way f { run { } throws a, b, c, d, ^e; }");
        probe.wrongAtMark("way f { run { } throws a, b, c, d, ^e A");
        probe.wrongAtMark("way f { run { } throws a, b, c, d, ^; }");
    }

    /** "at the 5th NAME of .. one ( ) of try" */
    private void fifthNameOfTry() {
        probe.right("way f { try (f, f, f, f) { try (a, b, c, d) { } } try (f, f, f, f) { } }", 1);
        probe.wrongAtMark("way f { try (f, f, f, f, ^f) { } }");
        probe.wrongAtMark("way f { try (f, f, f, f, ^) { } }");
        probe.wrongAtMark("way f { try (f, f, f, f ^f) { } }");
        probe.wrongAtMark("way f { try (a, b, c, d, ^e");
    }

    /** "at the 5th NAME .. of one catch ahead of its last" */
    private void fifthNameOfCatch() {
        probe.right("way f { try { } catch (a | b | c | d e) { } catch (a | b | c | d e) { } }", 1);
        probe.wrongAtMark("way f { try { } catch (a | b | c | d | ^e f) { } }");
        probe.wrongAtMark("way f { try { } catch (a | a | a | a | ^a a) { } }");
        probe.wrongAtMark("way f { try { } catch (a e) { } catch (a | b | c | d | ^e) { } }");
        probe.wrongAtMark("way f { try { } catch (a | b | c | d | ^) { } }");
        probe.wrongAtMark("way f { try { } catch (a | b | c | d e ^f) { } }");
        probe.wrongAtMark("way f { try { } catch (a | b | c | d ^) { } }");
    }

    /** "at the 5th catch of a try" */
    private void fifthCatch() {
        String four = "catch (a e) { } catch (b e) { } catch (zz e) { } catch (a e) { } ";
        probe.right("way f { try { } " + four + "}", 1);
        probe.right("way f { try (f) { } " + four + "finally { } try { } " + four + "}", 1);
        probe.wrongAtMark("way f { try { } " + four + "^catch (a e) { } }");
        probe.wrongAtMark("way f { try (f) { } " + four + "^catch");
        probe.wrongAtMark("way f { try { } " + four + "^catch A");
        probe.right("way f { try { try { } " + four + "} " + four + "finally { try { } " + four + "} }", 1);
        probe.right("way f { try { } " + four.replaceFirst("\\{ }", "{ try { } " + four + "}") + "}", 1);
        probe.wrongAtMark("way f { try { try { } " + four + "} " + four + "^catch (a e) { } }");
        probe.wrongAtMark("way f { try { try { } " + four + "^catch (a e) { } } " + four + "}");
    }

    /** "at a { within eight others" */
    private void braceWithinEightOthers() {
        for (String one : new String[] {"^{}", "if^{}", "if^{}else{}", "while^{}", "loop^{}", "try^{}finally{}", "try(f)^{}", "call f^{};", "run^{};"}) {
            probe.right("way f" + "{".repeat(7) + one.replace("^", "") + "}".repeat(7), 1);
            probe.wrongAtMark("way f" + "{".repeat(8) + one + "}".repeat(8));
        }
        probe.wrongAtMark("way f" + "{".repeat(8) + "^{");
        probe.wrongAtMark("way f" + "{".repeat(8) + " ^" + "{".repeat(1000));
        probe.right("way f" + "{{{{{{{{}}}}}}}}".repeat(2).replace("}{", "}way g{"), 2);
        probe.right("way f{" + "{{{{{{{}}}}}}}".repeat(17) + "}", 1);
        probe.due("told(2)", probe.x.told(2), 119);
        probe.wrongAtMark("way f{{{{{{{{}}}}}}}{{{{{{{^{}}}}}}}}}");
    }

    /** Every BLOCK is one level, also those of else, catch and finally. */
    private void everyBlockIsALevel() {
        for (String one : new String[] {"{@}", "if{@}", "if{}else{@}", "while{@}", "loop{@}", "try{@}finally{}", "try{}catch(a e){@}", "try{}finally{@}",
            "call f{@};", "run{@};"}) {
            probe.right("way f" + "{".repeat(6) + one.replace("@", "{}") + "}".repeat(6), 1);
            probe.wrongAtMark("way f" + "{".repeat(7) + one.replace("@", "^{}") + "}".repeat(7));
            probe.right("way f" + "{".repeat(7) + one.replace("@", "do;") + "}".repeat(7), 1);
        }
    }

    private void textsOf2000Bytes() {
        String text = "way f { do; }";
        String blanks = " ".repeat(2000 - text.length());
        probe.right(text + blanks, 1);
        probe.right(blanks + text, 1);
        probe.due("method(0, 0)", probe.x.method(0, 0), 2000 - text.length() + 4);
        probe.due("statement(0, 1)", probe.x.statement(0, 1), 2000 - text.length() + 8);
        probe.right("way f " + blanks + "{ do; }", 1);
        probe.wrongAtMark("way f { do; " + blanks + " ^");
        probe.wrongAtMark(blanks + "way f { do; ^]");
    }

    /** "-10 less the place where the text is wrong": places are 0 to 2000. */
    private void lowestAndHighestPlaces() {
        probe.wrongAt(";", 0);
        probe.wrongAt(" ;", 1);
        probe.wrongAt(" ".repeat(1999) + ";", 1999);
        probe.wrongAt("way" + " ".repeat(1996), 1999);
        probe.wrongAt("way" + " ".repeat(1997), 2000);
        probe.wrongAt(" ".repeat(1997) + "way", 2000);
    }

    /** "THE TAPE .. is the UNIT, in place of the one before" */
    private void theUnitIsReplaced() {
        probe.both(() -> {
            probe.due("read", probe.read("kind q below loose; kind r below q; way p { throw zz; do; } way n;"), 2);
            probe.due("told(0)", probe.x.told(0), 6);
            probe.due("told(2)", probe.x.told(2), 2);
            probe.due("told(3)", probe.x.told(3), 2);
            probe.due("read of less", probe.read("way o;"), 1);
            probe.due("told(0) of less", probe.x.told(0), 4);
            probe.due("told(2) of less", probe.x.told(2), 0);
            probe.due("told(3) of less", probe.x.told(3), 0);
            probe.due("kind(4, 0)", probe.x.kind(4, 0), ThrowRules.BAD);
            probe.due("method(1, 0)", probe.x.method(1, 0), ThrowRules.BAD);
            probe.due("statement(0, 0)", probe.x.statement(0, 0), ThrowRules.BAD);
            probe.due("mistake(0, 0)", probe.x.mistake(0, 0), ThrowRules.BAD);
            probe.due("find q", probe.find("q"), ThrowRules.NONE);
            probe.due("find p", probe.find("p"), ThrowRules.NONE);
            probe.due("read of nothing", probe.x.read(), 0);
            probe.due("told(1) of nothing", probe.x.told(1), 0);
        });
    }

    /** "the UNIT stays": however far the wrong text came, and its METHODS can still be walked. */
    private void theUnitStays() {
        for (String wrong : new String[] {"^;", "kind q below plain; way p { throw q; } ^A", "kind a below loose; kind b below error; way f { throw a; ^",
            "way f { set a; do; throw zz; break; do; } way f over zz throws zz ^A"}) {
            probe.both(() -> {
                probe.due("read", probe.read("kind a below plain; way f { throw a; } way g over f;"), 2);
                probe.due("walk(0, 3)", probe.x.walk(0, 3), 4);
                String before = probe.state();
                probe.due("read of " + wrong, probe.read(wrong.replace("^", "")), -10 - wrong.indexOf('^'));
                probe.due("the state behind " + wrong, probe.state(), before);
                probe.due("walk(0, 4)", probe.x.walk(0, 4), 4);
                probe.due("find a", probe.find("a"), 104);
                probe.due("find g", probe.find("g"), 201);
                probe.due("find q", probe.find("q"), ThrowRules.NONE);
            });
        }
    }

    /** "THE TAPE (which is empty then)", behind a right and a wrong text. */
    private void theTapeIsEmptyThen() {
        probe.both(() -> {
            probe.due("read of a right text", probe.read("way f; way g;"), 2);
            probe.due("told(4)", probe.x.told(4), 0);
            probe.due("cut(1)", probe.x.cut(1), ThrowRules.BAD);
            probe.due("read of a wrong text", probe.read("way f; way"), -20);
            probe.due("told(4) behind it", probe.x.told(4), 0);
            probe.due("cut(1) behind it", probe.x.cut(1), ThrowRules.BAD);
            probe.due("read of a text that is not behind it", probe.read("way h;"), 1);
            probe.due("read of nothing", probe.x.read(), 0);
        });
    }
}
