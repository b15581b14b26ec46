import java.lang.annotation.ElementType;
import java.lang.annotation.Retention;
import java.lang.annotation.RetentionPolicy;
import java.lang.annotation.Target;

/** The sentence of the document that a test is for. */
@Retention(RetentionPolicy.RUNTIME)
@Target(ElementType.METHOD)
@interface Says {
    /** The heading under which it stands. */
    String under();

    /** The promises that it binds, where the heading names none. */
    int[] promises() default {};

    /** Its words. */
    String sentence();
}
