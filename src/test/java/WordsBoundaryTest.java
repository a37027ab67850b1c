/**
 * Boundary cases of the words and of the text: 'Terms' (words, texts of words), promises 2 to 6 and
 * 20. Each test stands for the sentence of the document that is quoted above it.
 */
public final class WordsBoundaryTest {
    private static final Check CHECK = new Check();
    private static final String LETTERS = "abcdefghijklmnopqrstuvwxyz";

    public static void main(String[] args) {
        fortyWords();
        numbersInTheOrderOfAdding();
        numbersBehindARemovedOne();
        numbersAheadOfARemovedOne();
        oneToEightLetters();
        lettersFromAToZ();
        oneToFourSyllables();
        strongOrWeak();
        noTwoWordsHaveTheSameLetters();
        limitsInATextFromOneToNine();
        limitsThatAreSetFromOneToNine();
        limitCountsLinesAndNotPlaces();
        textOfFortyCharacters();
        textIsEmptyAtFirst();
        anyCharacterIsTyped();
        everySignAtEveryPlace();
        textThatEndsTooEarly();
        ninthLetter();
        hyphenBehindTheFourthSyllable();
        hyphenBehindTheEighthLetter();
        textStays();
        emptyAndFullTextAreCleared();
        orderOfTheErrorsOfAddWord();
        linesThatBecomeEmpty();
        noWordToRemove();
        orderOfTheErrorsOfSetLimit();
        limitAndLinesThatUseIt();
        limitThatIsSoAlready();
        justTheseLetters();
        CHECK.finish();
    }

    /** "There are up to 40 words"; addWord: "FULL if there are 40 words". */
    private static void fortyWords() {
        EdgeVerses verses = new EdgeVerses();
        CHECK.due("words at first", 0, verses.count(0));
        for (int word = 0; word < 40; word++) {
            String letters = (word < 26 ? "" : "b") + LETTERS.charAt(word % 26);
            CHECK.due("addWord() with " + word + " words", word, Verses.addWord(verses, letters));
        }
        CHECK.due("words in a full store", 40, verses.count(0));
        CHECK.due("addWord() with 40 words", EdgeVerses.FULL, Verses.addWord(verses, "zz"));
        CHECK.due("addWord() with 40 words, again", EdgeVerses.FULL, verses.addWord());
        CHECK.due("find the 40th word", 39, Verses.find(verses, "bn"));
        CHECK.due("remove the first one", 0, verses.removeWord(0));
        CHECK.due("addWord() with 39 words", 39, Verses.addWord(verses, "zz"));
        CHECK.due("full once more", EdgeVerses.FULL, Verses.addWord(verses, "yy"));
        CHECK.due("undo()", 4, verses.undo());
        CHECK.due("addWord() with 39 words, when one is undone", 39, verses.addWord());
    }

    /** "numbered from 0 in the order in which they were added" */
    private static void numbersInTheOrderOfAdding() {
        EdgeVerses verses = new EdgeVerses();
        CHECK.due("the first word", 0, Verses.addWord(verses, "z"));
        CHECK.due("the second word", 1, Verses.addWord(verses, "a"));
        CHECK.due("the third word", 2, Verses.addWord(verses, "m"));
        CHECK.due("letter of word 0", (int) 'z', verses.letterAt(0, 0));
        CHECK.due("letter of word 1", (int) 'a', verses.letterAt(1, 0));
        CHECK.due("letter of word 2", (int) 'm', verses.letterAt(2, 0));
    }

    /** "when one is removed, the numbers of those behind it become less by 1" */
    private static void numbersBehindARemovedOne() {
        for (int removed : new int[] {0, 1, 20, 38, 39}) {
            EdgeVerses verses = Verses.withFullStore();
            CHECK.due("removeWord(" + removed + ")", 0, verses.removeWord(removed));
            CHECK.due("words then", 39, verses.count(0));
            CHECK.due("word(39, 0) then", EdgeVerses.UNKNOWN, verses.word(39, 0));
            for (int word = 0; word < 39; word++) {
                int before = word < removed ? word : word + 1;
                CHECK.due("letters of " + word + " without " + removed, before < 26 ? 1 : 2,
                        verses.word(word, 0));
                CHECK.due("last letter of " + word + " without " + removed,
                        (int) LETTERS.charAt(before % 26), verses.word(word, 6));
            }
        }
        propertiesBehindARemovedOne();
        EdgeVerses one = Verses.withWords("a");
        CHECK.due("remove the only word", 0, one.removeWord(0));
        CHECK.due("words then", 0, one.count(0));
        CHECK.due("the next word", 0, Verses.addWord(one, "b"));
    }

    private static void propertiesBehindARemovedOne() {
        EdgeVerses verses = Verses.withWords("'z", "a-'b*2", "c", "d-e-'f-g*9");
        int[][] due = {{2, 2, 2, 2, 0, 'a', 'b'}, {1, 1, 0, 1, 0, 'c', 'c'}, {4, 4, 4, 9, 0, 'd', 'g'}};
        verses.removeWord(0);
        for (int word = 0; word < 3; word++) {
            for (int what = 0; what < 7; what++) {
                CHECK.due("word(" + word + ", " + what + ") that was the next one", due[word][what],
                        verses.word(word, what));
            }
        }
    }

    /** The same sentence: those ahead of it keep their numbers, in the lines, too. */
    private static void numbersAheadOfARemovedOne() {
        EdgeVerses verses = Verses.withWords("a*9", "b*9", "x", "c", "y");
        Verses.setMetre(verses, "...");
        Verses.setEdges(verses, "bac/abc");
        verses.make();
        CHECK.due("poem", "b a a/a a b/c a c/", Verses.poem(verses));
        CHECK.due("remove the last word", 0, verses.removeWord(4));
        CHECK.due("poem without the last word", "b a a/a a b/c a c/", Verses.poem(verses));
        CHECK.due("remove a word in the middle", 0, verses.removeWord(2));
        CHECK.due("poem without a word in the middle", "b a a/a a b/c a c/", Verses.poem(verses));
        int[][] due = {{1, 0, 0}, {0, 0, 1}, {2, 0, 2}};
        for (int line = 0; line < 3; line++) {
            for (int place = 0; place < 3; place++) {
                CHECK.due("wordAt(" + line + ", " + place + ")", due[line][place],
                        verses.wordAt(line, place));
            }
        }
        CHECK.due("remove c", 1, verses.removeWord(2));
        CHECK.due("poem without c", "b a a/a a b//", Verses.poem(verses));
    }

    /** "A word has 1 to 8 letters" */
    private static void oneToEightLetters() {
        CHECK.due("no letter", -100, Verses.addWord(new EdgeVerses(), ""));
        for (int letters = 1; letters <= 8; letters++) {
            EdgeVerses verses = new EdgeVerses();
            CHECK.due(letters + " letters", 0, Verses.addWord(verses, LETTERS.substring(0, letters)));
            CHECK.due("word(0, 0)", letters, verses.word(0, 0));
            CHECK.due("last letter", (int) LETTERS.charAt(letters - 1), verses.word(0, 6));
        }
        CHECK.due("9 letters", -108, Verses.addWord(new EdgeVerses(), LETTERS.substring(0, 9)));
    }

    /** "letters (a to z)" */
    private static void lettersFromAToZ() {
        for (char letter = 'a'; letter <= 'z'; letter++) {
            EdgeVerses verses = Verses.withWords("" + letter);
            CHECK.due("letter " + letter, (int) letter, verses.letterAt(0, 0));
            CHECK.due("find " + letter, 0, Verses.find(verses, "" + letter));
        }
        for (char other : new char[] {'a' - 1, 'z' + 1, 'A', 'Z', 228, 'a' + 256, 'z' - 256 + 65536}) {
            CHECK.due("sign " + (int) other, -100, Verses.addWord(new EdgeVerses(), "" + other));
            CHECK.due("sign " + (int) other + " behind a letter", -101,
                    Verses.addWord(new EdgeVerses(), "a" + other));
        }
    }

    /** "a stress for each of its syllables (1 to 4 syllables)" */
    private static void oneToFourSyllables() {
        String text = "";
        for (int syllables = 1; syllables <= 4; syllables++) {
            text += (syllables > 1 ? "-" : "") + LETTERS.charAt(syllables);
            EdgeVerses verses = Verses.withWords(text);
            CHECK.due("syllables of " + text, syllables, verses.word(0, 1));
        }
        CHECK.due("5 syllables", -107, Verses.addWord(new EdgeVerses(), text + "-f"));
    }

    /** "strong or weak": all stresses of one to four syllables. */
    private static void strongOrWeak() {
        for (int syllables = 1; syllables <= 4; syllables++) {
            for (int strong = 0; strong < 1 << syllables; strong++) {
                StringBuilder text = new StringBuilder();
                for (int syllable = 0; syllable < syllables; syllable++) {
                    text.append(syllable > 0 ? "-" : "");
                    text.append((strong >> syllable & 1) == 1 ? "'ab" : "ab");
                }
                EdgeVerses verses = Verses.withWords(text.toString());
                CHECK.due("syllables of " + text, syllables, verses.word(0, 1));
                CHECK.due("strong ones of " + text, strong, verses.word(0, 2));
                CHECK.due("letters of " + text, "ab".repeat(syllables), Verses.letters(verses, 0));
            }
        }
    }

    /** "no two words have the same letters"; addWord: "NOT_POSSIBLE if there is a word with these". */
    private static void noTwoWordsHaveTheSameLetters() {
        EdgeVerses verses = Verses.withWords("aa", "b", "abcdefgh");
        for (String same : new String[] {"aa", "'aa", "a-a", "'a-'a*9", "b*2", "abcdefgh", "abcd-'efgh"}) {
            CHECK.due("same letters: " + same, EdgeVerses.NOT_POSSIBLE, Verses.addWord(verses, same));
        }
        CHECK.due("words then", 3, verses.count(0));
        String[] others = {"a", "aaa", "ab", "ba", "bb", "abcdefg", "abcdefgi", "bbcdefgh"};
        for (int index = 0; index < others.length; index++) {
            CHECK.due("other letters: " + others[index], 3 + index, Verses.addWord(verses, others[index]));
        }
    }

    /** "behind the word "*" and a digit from 1 to 9 can stand (its limit; 1 without it)" */
    private static void limitsInATextFromOneToNine() {
        CHECK.due("limit without a digit", 1, Verses.withWords("a").word(0, 3));
        for (int limit = 1; limit <= 9; limit++) {
            CHECK.due("limit of a*" + limit, limit, Verses.withWords("a*" + limit).word(0, 3));
        }
        for (char digit : new char[] {'0', '1' - 2, '9' + 1, 0, 1, 9, '1' + 256}) {
            CHECK.due("limit of sign " + (int) digit, -102, Verses.addWord(new EdgeVerses(), "a*" + digit));
        }
        CHECK.due("limit of two digits", -103, Verses.addWord(new EdgeVerses(), "a*10"));
    }

    /** setLimit: "limit: 1 to 9" */
    private static void limitsThatAreSetFromOneToNine() {
        EdgeVerses verses = Verses.withWords("a*9");
        int before = 9;
        for (int limit = 1; limit <= 9; limit++) {
            CHECK.due("setLimit(0, " + limit + ")", before, verses.setLimit(0, limit));
            CHECK.due("limit then", limit, verses.word(0, 3));
            before = limit;
        }
        for (int limit : Bounds.outside(1, 9)) {
            CHECK.due("setLimit(0, " + limit + ")", EdgeVerses.BAD_VALUE, verses.setLimit(0, limit));
        }
        CHECK.due("limit after bad ones", 9, verses.word(0, 3));
    }

    /** "in how many lines of the poem it can be used (in each of them as often as one likes)" */
    private static void limitCountsLinesAndNotPlaces() {
        EdgeVerses verses = Verses.withWords("a");
        verses.setMetre(12, 0);
        Verses.setEdges(verses, "aa/aa");
        CHECK.due("a word of limit 1, twelve times in a line", 12, verses.makeLine(1));
        CHECK.due("lines that use it", 1, verses.word(0, 4));
        CHECK.due("and in no line more", EdgeVerses.NONE, verses.makeLine(0));
        EdgeVerses many = Verses.withWords("a*7", "b*8", "c*9");
        many.setMetre(2, 0);
        Verses.setEdges(many, "aaaaaaaa/aaaaaaaa");
        CHECK.due("lines of limit 7", 7, many.make());
        CHECK.due("the eighth line is empty", 0, many.line(7, 0));
        Verses.setEdges(many, "bbbbbbbb/bbbbbbbb");
        CHECK.due("lines of limit 8", 8, many.make());
        Verses.setEdges(many, "cccccccc/cccccccc");
        CHECK.due("lines of limit 9", 8, many.make());
        CHECK.due("words that are used up", 0, many.count(7));
    }

    /** "There is a text of at most 40 characters"; type: "FULL if it has 40 characters". */
    private static void textOfFortyCharacters() {
        EdgeVerses verses = new EdgeVerses();
        for (int length = 1; length <= 40; length++) {
            CHECK.due("type() with " + (length - 1) + " characters", length, verses.type('a'));
        }
        for (char character : new char[] {'a', 0, '\'', '-', 0xffff}) {
            CHECK.due("type() with 40 characters", EdgeVerses.FULL, verses.type(character));
        }
        CHECK.due("length then", 40, verses.count(11));
        CHECK.due("clearText()", 40, verses.clearText());
        CHECK.due("type() in an emptied text", 1, verses.type('a'));
    }

    /** "empty at first" */
    private static void textIsEmptyAtFirst() {
        CHECK.due("count(11) of a new object", 0, new EdgeVerses().count(11));
        CHECK.due("clearText() of a new object", 0, new EdgeVerses().clearText());
        CHECK.due("type() in a new object", 1, new EdgeVerses().type('a'));
        CHECK.due("addWord() of a new object", -100, new EdgeVerses().addWord());
        CHECK.due("setEdges() of a new object", EdgeVerses.NOT_POSSIBLE, new EdgeVerses().setEdges());
        CHECK.due("find() of a new object", EdgeVerses.NONE, new EdgeVerses().find());
    }

    /** type: "character: any character" */
    private static void anyCharacterIsTyped() {
        EdgeVerses verses = new EdgeVerses();
        for (int character = 0; character <= 0xffff; character++) {
            if (character % 40 == 0) {
                verses = new EdgeVerses();
            }
            int answer = verses.type((char) character);
            if (answer != character % 40 + 1) {
                CHECK.due("type(" + character + ")", character % 40 + 1, answer);
            }
        }
        CHECK.due("length behind all characters", 0x10000 % 40, verses.count(11));
    }

    /** "The fault of the text is the index, from 0, of the first character that is not allowed" */
    private static void everySignAtEveryPlace() {
        allowed("", "'" + LETTERS);
        allowed("'", LETTERS);
        allowed("a", "-*" + LETTERS);
        allowed("'ab", "-*" + LETTERS);
        allowed("a-", "'" + LETTERS);
        allowed("a-'", LETTERS);
        allowed("a-'b", "-*" + LETTERS);
        allowed("a-b-c", "-*" + LETTERS);
        allowed("a-b-c-", "'" + LETTERS);
        allowed("a-b-c-d", "*" + LETTERS);
        allowed("'a-'b-'c-'de", "*" + LETTERS);
        allowed("abcdefg", "-*" + LETTERS);
        allowed("abcdefgh", "-*");
        allowed("'ab-cde-'fgh", "-*");
        allowed("ab-cd-ef-gh", "*");
        allowed("abcdefgh-", "'");
        allowed("ab-'cde-fgh-", "'");
        allowed("abcdefgh-'", "");
        allowed("a*", "123456789");
        allowed("abcdefgh*", "123456789");
        allowed("a-b-c-d*", "123456789");
        allowed("a*1", "");
        allowed("abcdefgh*9", "");
        allowed("a-b-c-d*5", "");
    }

    /** Whether the sign at the end of the text is its fault; signs 0 to 300, and some far out. */
    private static void allowed(String start, String signs) {
        for (int sign = 0; sign <= 300; sign++) {
            sign(start, (char) sign, signs.indexOf(sign) >= 0);
        }
        for (char sign : new char[] {'\'' + 512, '-' + 1024, '*' + 4096, 'a' + 65280, 0x2019, 0xffff}) {
            sign(start, sign, false);
        }
    }

    private static void sign(String start, char sign, boolean isAllowed) {
        int answer = Verses.addWord(new EdgeVerses(), start + sign + "?");
        int fault = start.length() + (isAllowed ? 1 : 0);
        CHECK.due("addWord() of " + start + " and sign " + (int) sign, -100 - fault, answer);
    }

    /** "or its length if it ends too early" */
    private static void textThatEndsTooEarly() {
        String[] early = {"", "'", "a-", "'a-", "a-'", "a-b-c-", "a-b-c-'", "a*", "abcdefgh*",
            "a-b-c-d*", "abcdefgh-", "abcdefgh-'", "abc-de-'fgh-", "abc-de-'fgh-'"};
        for (String text : early) {
            CHECK.due("addWord() of " + text, -100 - text.length(), Verses.addWord(new EdgeVerses(), text));
        }
        CHECK.due("the longest word ends in time", 0, Verses.addWord(new EdgeVerses(), "'ab-'cd-'ef-'gh*9"));
    }

    /** "(the ninth letter" is a fault "too" */
    private static void ninthLetter() {
        CHECK.due("eighth letter", 0, Verses.addWord(new EdgeVerses(), "'ab-cde-'fgh"));
        CHECK.due("ninth letter", -112, Verses.addWord(new EdgeVerses(), "'ab-cde-'fghi"));
        CHECK.due("ninth letter, the first syllable", -108, Verses.addWord(new EdgeVerses(), "abcdefghi"));
        CHECK.due("ninth letter, the fourth syllable", -115, Verses.addWord(new EdgeVerses(), "'a-'b-'c-'defghi"));
        CHECK.due("ninth of forty letters", -108, Verses.addWord(new EdgeVerses(), "a".repeat(40)));
    }

    /** "the "-" behind the fourth syllable, too" */
    private static void hyphenBehindTheFourthSyllable() {
        CHECK.due("behind the third one", 0, Verses.addWord(new EdgeVerses(), "a-b-c-d"));
        CHECK.due("behind the fourth one", -107, Verses.addWord(new EdgeVerses(), "a-b-c-d-"));
        CHECK.due("and a fifth one", -107, Verses.addWord(new EdgeVerses(), "a-b-c-d-e"));
        CHECK.due("and a digit", 0, Verses.addWord(new EdgeVerses(), "a-b-c-d*2"));
        CHECK.due("behind eight letters", -111, Verses.addWord(new EdgeVerses(), "ab-cd-ef-gh-"));
    }

    /** "a "-" behind the eighth letter of fewer syllables is allowed, then no letter is" */
    private static void hyphenBehindTheEighthLetter() {
        CHECK.due("one syllable", -109, Verses.addWord(new EdgeVerses(), "abcdefgh-"));
        CHECK.due("one syllable, a letter", -109, Verses.addWord(new EdgeVerses(), "abcdefgh-i"));
        CHECK.due("two syllables, a letter", -110, Verses.addWord(new EdgeVerses(), "abcd-efgh-i"));
        CHECK.due("three syllables, a letter", -111, Verses.addWord(new EdgeVerses(), "abc-def-gh-i"));
        CHECK.due("four syllables: the \"-\" is the fault", -111,
                Verses.addWord(new EdgeVerses(), "ab-cd-ef-gh-i"));
        CHECK.due("behind the seventh letter", 0, Verses.addWord(new EdgeVerses(), "abcdefg-h"));
        CHECK.due("no digit either", -109, Verses.addWord(new EdgeVerses(), "abcdefgh-*"));
        CHECK.due("no \"-\" either", -109, Verses.addWord(new EdgeVerses(), "abcdefgh--"));
    }

    /** addWord: "Adds the word of the text, which stays." */
    private static void textStays() {
        EdgeVerses verses = Verses.typed(new EdgeVerses(), "'ab-c");
        CHECK.due("addWord()", 0, verses.addWord());
        CHECK.due("length then", 5, verses.count(11));
        verses.type('*');
        CHECK.due("addWord() of the text and *", -106, verses.addWord());
        verses.type('2');
        CHECK.due("addWord() of the text and *2", EdgeVerses.NOT_POSSIBLE, verses.addWord());
        verses.removeWord(0);
        CHECK.due("addWord() when the word is removed", 0, verses.addWord());
        CHECK.due("its limit", 2, verses.word(0, 3));
    }

    /** clearText: "Returns the length that it had." */
    private static void emptyAndFullTextAreCleared() {
        EdgeVerses verses = new EdgeVerses();
        CHECK.due("clearText() of an empty text", 0, verses.clearText());
        verses.type('a');
        CHECK.due("clearText() of one character", 1, verses.clearText());
        CHECK.due("clearText() again", 0, verses.clearText());
        CHECK.due("clearText() of 39", 39, Verses.typed(verses, "b".repeat(39)).clearText());
        CHECK.due("clearText() of 40", 40, Verses.typed(verses, "b".repeat(40)).clearText());
        CHECK.due("clearText() of 41", 40, Verses.typed(verses, "b".repeat(41)).clearText());
        CHECK.due("length then", 0, verses.count(11));
        CHECK.due("find() then", EdgeVerses.NONE, verses.find());
    }

    /** addWord: the fault, NOT_POSSIBLE, FULL, in this order. */
    private static void orderOfTheErrorsOfAddWord() {
        EdgeVerses few = Verses.withWords("a");
        CHECK.due("fault, and the letters are there", -102, Verses.addWord(few, "a*"));
        EdgeVerses full = Verses.withFullStore();
        CHECK.due("fault, and 40 words", -103, Verses.addWord(full, "zz*"));
        CHECK.due("fault, the letters are there, and 40 words", -102, Verses.addWord(full, "z-"));
        CHECK.due("the letters are there, and 40 words", EdgeVerses.NOT_POSSIBLE, Verses.addWord(full, "'z"));
        CHECK.due("40 words", EdgeVerses.FULL, Verses.addWord(full, "zz"));
    }

    /** removeWord: "Returns the number of lines that become empty by this" */
    private static void linesThatBecomeEmpty() {
        EdgeVerses verses = Verses.withWords("a*9", "b*9", "c*9");
        verses.setMetre(2, 0);
        Verses.setEdges(verses, "aaaaaaaa/aaaaaaaa");
        verses.make();
        CHECK.due("of eight lines none", 0, verses.removeWord(2));
        CHECK.due("lines that are made then", 8, verses.count(2));
        CHECK.due("of eight lines all", 8, verses.removeWord(0));
        CHECK.due("lines that are made then", 0, verses.count(2));
        CHECK.due("poem then", "////////", Verses.poem(verses));
        Verses.setEdges(verses, "bx/bx");
        verses.make();
        CHECK.due("of one line that is made one", 1, verses.removeWord(0));
        CHECK.due("lines then", 2, verses.count(1));
    }

    /** removeWord: "UNKNOWN" */
    private static void noWordToRemove() {
        for (int word : Bounds.from(0)) {
            CHECK.due("no words: removeWord(" + word + ")", EdgeVerses.UNKNOWN, new EdgeVerses().removeWord(word));
        }
        EdgeVerses verses = Verses.withWords("a", "b", "c");
        for (int word : Bounds.outside(0, 2)) {
            CHECK.due("three words: removeWord(" + word + ")", EdgeVerses.UNKNOWN, verses.removeWord(word));
        }
        EdgeVerses full = Verses.withFullStore();
        for (int word : Bounds.outside(0, 39)) {
            CHECK.due("40 words: removeWord(" + word + ")", EdgeVerses.UNKNOWN, full.removeWord(word));
        }
        CHECK.due("40 words: removeWord(39)", 0, full.removeWord(39));
        CHECK.due("39 words: removeWord(39)", EdgeVerses.UNKNOWN, full.removeWord(39));
    }

    /** A word a that is used in two lines; its limit is 5. */
    private static EdgeVerses usedInTwoLines() {
        EdgeVerses verses = Verses.withWords("a*5", "b");
        verses.setMetre(2, 0);
        Verses.setEdges(verses, "aa/aa");
        verses.make();
        return verses;
    }

    /** setLimit: UNKNOWN, BAD_VALUE, NOT_POSSIBLE, NONE, in this order. */
    private static void orderOfTheErrorsOfSetLimit() {
        EdgeVerses verses = usedInTwoLines();
        for (int word : Bounds.outside(0, 1)) {
            CHECK.due("no word, a limit: " + word, EdgeVerses.UNKNOWN, verses.setLimit(word, 1));
            CHECK.due("no word, no limit: " + word, EdgeVerses.UNKNOWN, verses.setLimit(word, 0));
            CHECK.due("no word, no limit: " + word, EdgeVerses.UNKNOWN, verses.setLimit(word, 10));
        }
        CHECK.due("no limit, and more lines use it", EdgeVerses.BAD_VALUE, verses.setLimit(0, 0));
        CHECK.due("no limit, far below", EdgeVerses.BAD_VALUE, verses.setLimit(0, Integer.MIN_VALUE));
        CHECK.due("more lines use it", EdgeVerses.NOT_POSSIBLE, verses.setLimit(0, 1));
        CHECK.due("so already", EdgeVerses.NONE, verses.setLimit(0, 5));
    }

    /** setLimit: "NOT_POSSIBLE if more lines use it" */
    private static void limitAndLinesThatUseIt() {
        EdgeVerses verses = usedInTwoLines();
        CHECK.due("one line more", 5, verses.setLimit(0, 3));
        CHECK.due("as many lines", 3, verses.setLimit(0, 2));
        CHECK.due("one line fewer", EdgeVerses.NOT_POSSIBLE, verses.setLimit(0, 1));
        verses.clearLine(0);
        CHECK.due("as many lines, when one is cleared", 2, verses.setLimit(0, 1));
        CHECK.due("a word that no line uses", EdgeVerses.NONE, verses.setLimit(1, 1));
        EdgeVerses eight = Verses.withWords("a*9");
        eight.setMetre(2, 0);
        Verses.setEdges(eight, "aaaaaaaa/aaaaaaaa");
        eight.make();
        CHECK.due("seven of eight lines", EdgeVerses.NOT_POSSIBLE, eight.setLimit(0, 7));
        CHECK.due("eight of eight lines", 9, eight.setLimit(0, 8));
    }

    /** setLimit: "NONE if it is so already" */
    private static void limitThatIsSoAlready() {
        for (int limit = 1; limit <= 9; limit++) {
            EdgeVerses verses = Verses.withWords("a*" + limit);
            CHECK.due("setLimit(0, " + limit + ")", EdgeVerses.NONE, verses.setLimit(0, limit));
            int other = limit % 9 + 1;
            CHECK.due("setLimit(0, " + other + ")", limit, verses.setLimit(0, other));
            CHECK.due("setLimit(0, " + other + ") again", EdgeVerses.NONE, verses.setLimit(0, other));
            CHECK.due("states", 2, verses.count(10));
        }
    }

    /** find: "the text has to be just these"; "NONE if there is none with just these letters". */
    private static void justTheseLetters() {
        EdgeVerses verses = Verses.withWords("'ab-c*2", "a", "abcdefgh");
        CHECK.due("find a word of 3 letters", 0, Verses.find(verses, "abc"));
        CHECK.due("find a word of 1 letter", 1, Verses.find(verses, "a"));
        CHECK.due("find a word of 8 letters", 2, Verses.find(verses, "abcdefgh"));
        String[] others = {"", "ab", "abcd", "b", "aa", "abcdefg", "abcdefghi", "abcdefghabcdefgh",
            "ab-c", "'abc", "abc*", "abc*2", "'ab-c*2", "ABC", "abc ", " abc", "a".repeat(40)};
        for (String other : others) {
            CHECK.due("find " + other, EdgeVerses.NONE, Verses.find(verses, other));
        }
        // The ninth letter is not to fall on the first one, nor a sign above 255 on a letter.
        CHECK.due("find abcdefgha", EdgeVerses.NONE, Verses.find(verses, "abcdefgha"));
        char above = 'a' + 256;
        CHECK.due("find a sign above a letter", EdgeVerses.NONE, Verses.find(verses, "" + above));
        CHECK.due("find it ahead of a letter", EdgeVerses.NONE,
                Verses.find(Verses.withWords("aa"), above + "a"));
        CHECK.due("find in an empty store", EdgeVerses.NONE, Verses.find(new EdgeVerses(), "a"));
        EdgeVerses full = Verses.withFullStore();
        CHECK.due("find the first one of 40", 0, Verses.find(full, "a"));
        CHECK.due("find the last one of 40", 39, Verses.find(full, "an"));
        CHECK.due("find none of 40", EdgeVerses.NONE, Verses.find(full, "ao"));
    }
}
