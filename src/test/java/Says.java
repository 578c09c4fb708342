import java.lang.annotation.ElementType;
import java.lang.annotation.Retention;
import java.lang.annotation.RetentionPolicy;
import java.lang.annotation.Target;

/** The sentence of the document that a test stands for, and where the document says it. */
@Retention(RetentionPolicy.RUNTIME)
@Target(ElementType.METHOD)
@interface Says {
    /** "Promise 2", "Terms", "==== 1", "==== 2", "==== 3", "Ahead of the calls", "The public face", "What it is". */
    String at();

    /** The document's own words, which stand once there. */
    String text();
}
