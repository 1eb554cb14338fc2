import java.lang.annotation.ElementType;
import java.lang.annotation.Retention;
import java.lang.annotation.RetentionPolicy;
import java.lang.annotation.Target;

/** The sentences of ../shared/DOC.md that a test holds the class against, and where they stand. */
@Retention(RetentionPolicy.RUNTIME)
@Target(ElementType.METHOD)
@interface Says {
    /** What it is, The public face, Terms, II, III, IV, Promise 1 .. Promise 34, or Not promised. */
    String at();

    String[] value();
}
