import java.lang.annotation.Retention;
import java.lang.annotation.RetentionPolicy;

/** The sentence of ../shared/DOC.md that a test is about, word by word. */
@Retention(RetentionPolicy.RUNTIME)
@interface Sentence {
    /** The heading that it stands under, up to a colon. */
    String in();

    String says();

    /** A boundary of this sentence that no promised calls reach, and why; the test comes nearest to it. */
    String unreached() default "";
}
