import java.lang.annotation.ElementType;
import java.lang.annotation.Retention;
import java.lang.annotation.RetentionPolicy;
import java.lang.annotation.Target;

/** On a test: the sentence of ../shared/DOC.md that it tests, word by word. */
@Retention(RetentionPolicy.RUNTIME)
@Target(ElementType.METHOD)
@interface Sentence {
    /** The section of the document: "Terms", or "Promise 2". */
    String in();

    String says();
}
