import java.io.IOException;

/** Runs the checks of all promises, sentence by sentence, and tells the sentences of the document that none is about. */
public final class PromiseChecks {
    public static void main(String[] args) throws IOException {
        Checks.readDocument();
        Promise01.check();
        Promise02.check();
        Promise03.check();
        Promise04.check();
        Promise05.check();
        Promise06.check();
        Promise07.check();
        Promise08.check();
        Promise09.check();
        Promise10.check();
        Promise11.check();
        Promise12.check();
        Promise13.check();
        Promise14.check();
        Promise15.check();
        Promise16.check();
        Promise17.check();
        Promise18.check();
        Checks.end();
    }
}
