import java.lang.annotation.ElementType;
import java.lang.annotation.Retention;
import java.lang.annotation.RetentionPolicy;
import java.lang.annotation.Target;

/** The sentence of the document that a test method is for, in the document's own words. */
@Retention(RetentionPolicy.RUNTIME)
@Target(ElementType.METHOD)
@interface Says {
    /** The number of the promise, or 0 for the parts "What it is" and "Description". */
    int promise();

    String text();
}
