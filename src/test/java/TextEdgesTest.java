/** The boundary cases of the document's "Description" 5, BOARD TEXT: a test for each sentence. */
final class TextEdgesTest {
    private static final String LIMITS = "limits 1 2 3;";
    private static final String SCENE = LIMITS + "scene 0; actor 1 5 5; actor 2 6 6;";
    private static final String ONE = "scene 0; actor 1 5 5;";

    private TextEdgesTest() {
    }

    static void run() {
        emptyTexts();
        limitsFirst();
        rangesOfLimits();
        rangesOfScenesAndActors();
        rangesOfShots();
        semicolons();
        orderOfStatements();
        keywords();
        digits();
        blanks();
        everyByte();
        bytesThatBeginNoToken();
        endOfText();
        actorsWhomTheSceneHas();
        subjectsAndPartners();
        fourthScene();
        thirteenthShot();
        leastPosition();
        leastCode();
        fullBuffer();
    }

    /** An empty text, and texts of blanks alone: the error is at the end. */
    private static void emptyTexts() {
        TextTest.wrong(1, "^");
        TextTest.wrong(1, " ^");
        TextTest.wrong(1, "\n^");
        TextTest.wrong(1, " \n \n^");
        TextTest.wrong(1, " ".repeat(800) + "^");
        TextTest.wrong(1, "^;");
    }

    /** "first "limits R T F"": not behind another statement, not twice. */
    private static void limitsFirst() {
        TextTest.wrong(1, "^scene 0; actor 1 5 5;");
        TextTest.wrong(1, "^actor 1 5 5;");
        TextTest.wrong(1, "^shot 1 1 1 none 5;");
        TextTest.wrong(1, LIMITS + "^limits 1 2 3; scene 0; actor 1 5 5;");
        TextTest.wrong(1, LIMITS + ONE + "^limits 1 2 3;");
        TextTest.wrong(1, LIMITS + "scene 0; ^limits 1 2 3;");
        TextTest.wrong(1, "limits 1 2^;");
        TextTest.wrong(1, "limits 1 2 3 ^4;");
        TextTest.wrong(1, "limits^;");
    }

    /** "(R 0 to 99, T 0 to 2000, F 0 to 2000)". */
    private static void rangesOfLimits() {
        TextTest.right(0, "limits 0 0 0;" + ONE);
        TextTest.right(0, "limits 99 2000 2000;" + ONE);
        ShotListPlanner x = Boards.loaded("limits 99 2000 1999;" + ONE);
        Calls.rows("of loaded limits", x, "count(2)", "99", "count(3)", "2000", "count(4)", "1999");
        TextTest.wrong(2, "limits ^100 0 0;" + ONE);
        TextTest.wrong(2, "limits 99 ^2001 0;" + ONE);
        TextTest.wrong(2, "limits 99 2000 ^2001;" + ONE);
    }

    /** "scene L" and "actor A X Y": the last number that is allowed, and the first that is not. */
    private static void rangesOfScenesAndActors() {
        TextTest.right(0, LIMITS + "scene 3; actor 5 199 199; actor 0 0 0;");
        TextTest.wrong(2, LIMITS + "scene ^4; actor 5 1 1;");
        TextTest.wrong(2, LIMITS + "scene 3; actor ^6 1 1;");
        TextTest.wrong(2, LIMITS + "scene 3; actor 5 ^200 1;");
        TextTest.wrong(2, LIMITS + "scene 3; actor 5 199 ^200;");
    }

    /** "shot X Y A B S (camera place, subject, partner or the word none, length)". */
    private static void rangesOfShots() {
        TextTest.right(3, SCENE + "shot 0 199 1 2 1; shot 199 0 2 1 99; shot 0 0 2 none 1;");
        TextTest.wrong(2, SCENE + "shot ^200 0 1 2 1;");
        TextTest.wrong(2, SCENE + "shot 0 ^200 1 2 1;");
        TextTest.wrong(2, SCENE + "shot 0 0 ^0 2 1;");
        TextTest.wrong(2, SCENE + "shot 0 0 ^3 2 1;");
        TextTest.wrong(2, SCENE + "shot 0 0 ^6 2 1;");
        TextTest.wrong(2, SCENE + "shot 0 0 ^33 2 1;");
        TextTest.wrong(2, SCENE + "shot 0 0 1 ^0 1;");
        TextTest.wrong(2, SCENE + "shot 0 0 1 ^3 1;");
        TextTest.wrong(2, SCENE + "shot 0 0 1 ^6 1;");
        TextTest.wrong(2, SCENE + "shot 0 0 1 ^34 1;");
        TextTest.wrong(2, SCENE + "shot 0 0 1 2 ^0;");
        TextTest.wrong(2, SCENE + "shot 0 0 1 2 ^100;");
        TextTest.wrong(2, SCENE + "shot 0 0 1 none ^0;");
        TextTest.wrong(1, SCENE + "shot 0 0 ^none 2 1;");
        TextTest.wrong(1, SCENE + "shot 0 0 1 ^shot 1;");
        TextTest.wrong(1, SCENE + "shot 0 0 1 none ^none;");
        TextTest.wrong(2, LIMITS + "scene 0; actor 3 1 1;" + ONE + "shot 9 9 ^3 none 1;");
        TextTest.wrong(2, LIMITS + "scene 0; actor 3 1 1;" + ONE + "shot 9 9 1 ^3 1;");
    }

    /** "each of which ends with a semicolon", and has just one. */
    private static void semicolons() {
        TextTest.wrong(1, "limits 1 2 3 ^scene 0; actor 1 5 5;");
        TextTest.wrong(1, LIMITS + "scene 0 ^actor 1 5 5;");
        TextTest.wrong(1, SCENE + "actor 3 7 7 ^actor 4 7 7;");
        TextTest.wrong(1, SCENE + "shot 9 9 1 2 3 ^shot 9 9 1 2 3;");
        TextTest.wrong(1, SCENE + "shot 9 9 1 2 3^");
        TextTest.wrong(1, LIMITS + "scene 0; actor 1 5 5^");
        TextTest.wrong(1, LIMITS + "^;" + ONE);
        TextTest.wrong(1, LIMITS + "scene 0;^; actor 1 5 5;");
        TextTest.wrong(1, SCENE + "^;");
        TextTest.wrong(1, SCENE + "shot 9 9 1 2 3;^;");
    }

    /** "for each of 1 to 3 scenes ... its 1 to 6 actors ..., and its shots". */
    private static void orderOfStatements() {
        TextTest.wrong(1, LIMITS + "^");
        TextTest.wrong(1, LIMITS + "^actor 1 5 5;");
        TextTest.wrong(1, LIMITS + "^shot 9 9 1 none 1;");
        TextTest.wrong(1, LIMITS + "scene 0;^");
        TextTest.wrong(1, LIMITS + "scene 0; ^scene 0; actor 1 5 5;");
        TextTest.wrong(1, LIMITS + "scene 0; ^shot 9 9 1 none 1;");
        TextTest.wrong(1, SCENE + "shot 9 9 1 2 3; ^actor 3 7 7;");
        TextTest.wrong(1, SCENE + "scene 1;^");
        TextTest.wrong(1, SCENE + "scene 1; ^scene 2; actor 0 1 1;");
        TextTest.wrong(1, SCENE + "scene 1; ^shot 9 9 1 2 3;");
        TextTest.wrong(1, SCENE + "shot 9 9 1 2 3; scene 1; ^shot 9 9 1 2 3;");
        TextTest.right(1, SCENE + "scene 1; actor 1 7 7; shot 9 9 1 none 3;");
    }

    /** "a keyword (lower-case letters, as many as follow one another)". */
    private static void keywords() {
        TextTest.wrong(1, "^limit 1 2 3;");
        TextTest.wrong(1, "^limitsx 1 2 3;");
        TextTest.wrong(1, "^xlimits 1 2 3;");
        TextTest.wrong(1, "^Limits 1 2 3;");
        TextTest.wrong(1, "^lim its 1 2 3;");
        TextTest.wrong(1, LIMITS + "^scenes 0;");
        TextTest.wrong(1, LIMITS + "^scen e 0;");
        TextTest.wrong(1, LIMITS + "^sceneactor 0;");
        TextTest.wrong(1, SCENE + "^actors 3 7 7;");
        TextTest.wrong(1, SCENE + "^shots 9 9 1 2 3;");
        TextTest.wrong(1, SCENE + "^sho 9 9 1 2 3;");
        TextTest.wrong(1, SCENE + "shot 9 9 1 ^nones 3;");
        TextTest.wrong(1, SCENE + "shot 9 9 1 ^non 3;");
        TextTest.wrong(1, SCENE + "shot 9 9 1 ^NONE 3;");
        TextTest.right(1, "limits1 2 3;scene0;actor1 5 5;shot9 9 1none3;");
        TextTest.wrong(1, "limits 1^a 2 3;");
        TextTest.wrong(1, "limits 1 2 3^scene;");
    }

    /** "a number (digits, as many as follow one another, at most four)". */
    private static void digits() {
        TextTest.right(1, "limits 0001 0002 0003; scene 0000; actor 0001 0005 0005;"
                + "shot 0009 0009 0001 none 0003;");
        TextTest.wrong(2, "limits ^0100 2 3;");
        TextTest.wrong(2, "limits ^9999 2 3;");
        TextTest.wrong(1, "limits ^10000 2 3;");
        TextTest.wrong(1, "limits ^00001 2 3;");
        TextTest.wrong(1, "limits ^00000 2 3;");
        TextTest.wrong(1, "limits 1 2 ^00003;");
        TextTest.wrong(1, LIMITS + "scene ^00000;");
        TextTest.wrong(1, LIMITS + "scene 0; actor ^00001 5 5;");
        TextTest.wrong(1, LIMITS + "scene 0; actor 1 ^00005 5;");
        TextTest.wrong(1, LIMITS + "scene 0; actor 1 5 ^00005;");
        TextTest.wrong(1, SCENE + "shot ^00009 9 1 2 3;");
        TextTest.wrong(1, SCENE + "shot 9 9 ^00001 2 3;");
        TextTest.wrong(1, SCENE + "shot 9 9 1 ^00002 3;");
        TextTest.wrong(1, SCENE + "shot 9 9 1 ^00001 3;");
        TextTest.wrong(1, SCENE + "shot 9 9 1 2 ^00003;");
        TextTest.wrong(1, SCENE + "^00001;");
        TextTest.wrong(1, "limits ^4294967297 2 3;");
        TextTest.wrong(1, "limits ^18446744073709551617 2 3;");
        TextTest.right(0, "limits 99 0200 2000; scene 3; actor 5 0199 0199;");
    }

    /** "Blanks (byte 32) and line feeds (byte 10) may stand before, between and behind tokens." */
    private static void blanks() {
        TextTest.right(1, "\n limits\n1 \n2  3\n;\n\nscene\n0 ; actor 1\n5 5\n;\n shot 9 9\n1"
                + " none\n3\n;\n \n");
        TextTest.wrong(1, "^lim\tits");
        TextTest.wrong(1, "limits^\t1 2 3;");
        TextTest.wrong(1, "limits 1 2 3;^\r\nscene 0;");
        TextTest.wrong(1, "limits 1 ^\u000b2 3;");
        TextTest.wrong(1, SCENE + "^\u0000");
        TextTest.wrong(1, SCENE + " \n^\u0000");
        TextTest.wrong(1, "limits 1 2\n^; scene");
        TextTest.wrong(1, "limits 1 1 1 ^2 3;");
    }

    /** Every byte but blanks, digits, letters and the semicolon begins no token. */
    private static void everyByte() {
        for (int sign = 0; sign < 256; sign++) {
            boolean isBlank = sign == 32 || sign == 10;
            boolean isDigit = sign >= '0' && sign <= '9';
            if (sign == '^') {
                continue;
            }
            if (isBlank || isDigit) {
                TextTest.right(0, "limits 1 2 3" + (char) sign + ";" + ONE);
            } else if (sign == ';') {
                TextTest.wrong(1, "limits 1 2 3" + (char) sign + "^;" + ONE);
            } else {
                TextTest.wrong(1, "limits 1 2 3^" + (char) sign + ";" + ONE);
            }
        }
    }

    /** "also a byte that begins no token", at the very begin and at the very end. */
    private static void bytesThatBeginNoToken() {
        TextTest.wrong(1, "^\u0000");
        TextTest.wrong(1, "^\u00fflimits 1 2 3;");
        TextTest.wrong(1, SCENE + "^\u00ff");
        TextTest.wrong(1, SCENE + "^\u0080");
        TextTest.wrong(1, SCENE + "^S");
        TextTest.wrong(1, "limits ^-1 2 3;");
        TextTest.wrong(1, "limits ^+1 2 3;");
        TextTest.wrong(1, "limits 1^.0 2 3;");
        TextTest.wrong(1, "limits 1^,2,3;");
        TextTest.wrong(1, "^limi_ts");
        TextTest.wrong(1, "limits^_ 1 2 3;");
        ShotListPlanner x = new ShotListPlanner();
        Boards.put(x, "limits 1 2 3^;");
        Calls.rows("of the sign ^", x, "load()", "-11", "errorPosition()", "12");
    }

    /** "At the end of the text the position is the length of the text." */
    private static void endOfText() {
        String whole = "limits 12 34 56;";
        for (int length = 0; length <= whole.length(); length++) {
            String start = whole.substring(0, length);
            TextTest.wrong(1, length > 0 && length < 6 ? "^" + start : start + "^");
            if (length == 0 || length >= 6) {
                TextTest.wrong(1, start + " \n  ^");
            }
        }
        String rest = "scene 0; actor 1 5 5; shot 9 9 1 none 3;";
        for (int length = 1; length < rest.length(); length++) {
            String text = whole + rest.substring(0, length);
            if (text.endsWith("5;") || text.endsWith("5; ")) {
                TextTest.right(0, text);
            } else if (!Character.isLetter(text.charAt(text.length() - 1))) {
                TextTest.wrong(1, text + "^");
            }
        }
        TextTest.right(1, whole + rest);
    }

    /** "the number of an actor whom the scene has already"; other scenes do not matter. */
    private static void actorsWhomTheSceneHas() {
        TextTest.wrong(3, SCENE + "actor ^1 7 7;");
        TextTest.wrong(3, SCENE + "actor ^2 6 6;");
        TextTest.wrong(3, SCENE + "actor ^0002 7 7;");
        TextTest.right(0, SCENE + "actor 3 5 5;");
        TextTest.right(0, SCENE + "scene 0; actor 1 5 5; actor 2 6 6;");
        TextTest.wrong(3, SCENE + "scene 0; actor 1 5 5; actor ^1 6 6;");
        String six = "limits 0 0 0; scene 0; actor 0 1 1; actor 1 1 1; actor 2 1 1; actor 3 1 1;"
                + "actor 4 1 1; actor 5 1 1;";
        for (int seventh = 0; seventh <= 5; seventh++) {
            TextTest.wrong(3, six + "actor ^" + seventh + " 7 7;");
        }
        TextTest.wrong(2, six + "actor ^6 7 7;");
        TextTest.wrong(2, six + "actor ^9999 7 7;");
        TextTest.wrong(1, six + "actor ^00000 7 7;");
        TextTest.wrong(1, six + "actor ^x 7 7;");
        TextTest.wrong(1, six + "actor^");
    }

    /** "the partner of a shot if it is its subject; the subject of a shot whose camera is ...". */
    private static void subjectsAndPartners() {
        TextTest.wrong(3, SCENE + "shot 9 9 1 ^1 3;");
        TextTest.wrong(3, SCENE + "shot 9 9 2 ^02 3;");
        TextTest.right(1, SCENE + "shot 9 9 2 1 3;");
        TextTest.wrong(3, SCENE + "shot 5 5 ^1 2 3;");
        TextTest.wrong(3, SCENE + "shot 6 6 ^2 none 3;");
        TextTest.wrong(3, SCENE + "shot 05 005 ^1 none 3;");
        TextTest.right(1, SCENE + "shot 5 5 2 1 3;");
        TextTest.right(2, SCENE + "shot 5 6 1 2 3; shot 6 5 1 2 3;");
        TextTest.right(1, SCENE + "scene 0; actor 1 7 7; shot 5 5 1 none 3;");
        TextTest.wrong(3, SCENE + "scene 0; actor 1 7 7; shot 7 7 ^1 none 3;");
    }

    /** "4: the keyword of a fourth scene". */
    private static void fourthScene() {
        TextTest.right(0, LIMITS + ONE.repeat(3));
        TextTest.wrong(4, LIMITS + ONE.repeat(3) + "^scene 0; actor 1 5 5;");
        TextTest.wrong(4, LIMITS + ONE.repeat(3) + "^scene");
        TextTest.wrong(4, LIMITS + ONE.repeat(3) + " \n^scene x");
        TextTest.wrong(4, LIMITS + ONE.repeat(3) + "shot 9 9 1 none 1; ^scene 9;");
        TextTest.wrong(1, LIMITS + ONE.repeat(3) + "^scenes 0;");
        TextTest.wrong(1, LIMITS + ONE.repeat(3) + "^actors 0;");
    }

    /** "or of a 13th shot", in whatever scene. */
    private static void thirteenthShot() {
        String shot = "shot 9 9 1 none 1;";
        TextTest.right(12, LIMITS + ONE + shot.repeat(12));
        TextTest.wrong(4, LIMITS + ONE + shot.repeat(12) + "^" + shot);
        TextTest.wrong(4, LIMITS + ONE + shot.repeat(12) + "^shot");
        TextTest.wrong(4, LIMITS + ONE + shot.repeat(12) + "^shot 999 x");
        TextTest.right(12, LIMITS + ONE + shot.repeat(5) + ONE + shot.repeat(6) + ONE + shot);
        TextTest.wrong(4, LIMITS + ONE + shot.repeat(5) + ONE + shot.repeat(6) + ONE + shot + "^"
                + shot);
        TextTest.right(12, LIMITS + ONE + shot.repeat(12) + ONE + ONE);
        TextTest.wrong(4, LIMITS + ONE + shot.repeat(12) + ONE + "^shot 1 1 1 1 1;");
        TextTest.wrong(4, LIMITS + ONE.repeat(3) + shot.repeat(12) + "^shot");
    }

    /** "The error with the least position counts", whatever its code is. */
    private static void leastPosition() {
        TextTest.wrong(2, "limits ^100 12345 x;");
        TextTest.wrong(1, "limits ^10000 2001 3;");
        TextTest.wrong(2, "limits 1 ^2001 3001; scenes");
        TextTest.wrong(3, SCENE + "actor ^1 200 200; x");
        TextTest.wrong(2, SCENE + "actor 3 ^200 x;");
        TextTest.wrong(3, SCENE + "shot 5 5 ^1 1 0;");
        TextTest.wrong(2, SCENE + "shot 5 5 ^3 3 0;");
        TextTest.wrong(2, SCENE + "shot ^200 5 1 1 0;");
        TextTest.wrong(3, SCENE + "shot 9 9 1 ^1 0;");
        TextTest.wrong(2, SCENE + "shot 9 9 1 2 ^0 x");
        TextTest.wrong(4, LIMITS + ONE.repeat(3) + "^scene 4; limits");
        TextTest.wrong(1, "^x limits 100 2 3;");
    }

    /** "of several errors at one position, the one with the least code." */
    private static void leastCode() {
        TextTest.wrong(1, LIMITS + ONE.repeat(2) + "scene 0; ^scene 0;");
        TextTest.wrong(1, LIMITS + ONE + "shot 9 9 1 none 1;".repeat(12) + "scene 0; ^shot");
        TextTest.wrong(1, LIMITS + ONE.repeat(2) + "scene 0 ^scene 0;");
        TextTest.wrong(1, LIMITS + ONE.repeat(2) + "scene 0; actor 1 5 5 ^scene 0;");
        TextTest.wrong(1, LIMITS + ONE + "shot 9 9 1 none 1;".repeat(11)
                + "shot 9 9 1 none 1 ^shot");
        TextTest.wrong(1, SCENE + "shot 9 9 1 ^00001 3;");
        TextTest.wrong(1, SCENE + "actor ^00001 7 7;");
        TextTest.wrong(1, "limits ^99999 2 3;");
        TextTest.wrong(2, SCENE + "shot 5 5 ^6 none 1;");
    }

    /** A text of just 800 bytes is read to its last one. */
    private static void fullBuffer() {
        int rest = 800 - SCENE.length();
        TextTest.right(0, SCENE + " ".repeat(rest));
        TextTest.wrong(1, SCENE + " ".repeat(rest - 1) + "^x");
        TextTest.wrong(1, SCENE + " ".repeat(rest - 4) + "shot^");
        TextTest.right(1, SCENE + " ".repeat(rest - 15) + "shot 9 9 1 2 3;");
        TextTest.wrong(1, SCENE + " ".repeat(rest - 14) + "shot 9 9 1 2 3^");
        TextTest.wrong(1, "^" + "a".repeat(800));
        TextTest.wrong(1, "^" + "1".repeat(800));
        TextTest.wrong(1, "^" + ";".repeat(800));
    }
}
