import java.lang.annotation.ElementType;
import java.lang.annotation.Retention;
import java.lang.annotation.RetentionPolicy;
import java.lang.annotation.Target;

/** Marks a boundary test with the words of ../shared/DOC.md that it tests, and with the heading they stand under. */
@Retention(RetentionPolicy.RUNTIME)
@Target(ElementType.METHOD)
@interface Sentence {
    String TERMS = "Terms";

    String at();

    String says();
}
