/** Promise 2: type. */
public final class TypeTest {
    public static void main(String[] args) {
        Due due = new Due("TypeTest");
        takesThePrintableCodesAlone(due);
        takesFortyEightCharacters(due);
        refusedCharactersChangeNothing(due);
        due.finish();
    }

    private static void takesThePrintableCodesAlone(Due due) {
        for (int code = 0; code <= 65535; code++) {
            // A new object for each code, for the text must not be full.
            if (code < 300 || code % 997 == 0 || code == 65535) {
                boolean taken = new MethodWarden().type((char) code);
                due.same("type of code " + code, taken ? 1 : 0, code >= 32 && code <= 126 ? 1 : 0);
            }
        }
    }

    private static void takesFortyEightCharacters(Due due) {
        MethodWarden warden = new MethodWarden();
        for (int k = 0; k < 48; k++) {
            due.yes("character " + k, warden.type(' '));
        }
        due.no("the 49th character", warden.type('a'));
        due.no("the 49th character, a wrong one", warden.type('\n'));
        due.same("48 spaces are no expression", warden.define(0), 48);
        due.yes("after define there is room again", warden.type('a'));
        due.same("and the text is the new one alone", warden.define(0), -1);
    }

    private static void refusedCharactersChangeNothing(Due due) {
        MethodWarden warden = new MethodWarden();
        warden.type('1');
        warden.type((char) 31);
        warden.type((char) 127);
        warden.type((char) 256);
        warden.type('2');
        due.same("define", warden.define(0), -1);
        warden.ask(0, 0, 0);
        due.same("the number typed", warden.asked(), 12);

        Write.type(warden, Write.repeated(" ", 47) + "1" + "2");
        due.same("define of a full text", warden.define(0), -1);
        warden.ask(0, 0, 0);
        due.same("the character that found no room is not in it", warden.asked(), 1);
    }
}
