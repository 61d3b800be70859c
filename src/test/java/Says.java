import java.lang.annotation.Retention;
import java.lang.annotation.RetentionPolicy;

/** The sentence of the document to which a test holds the program, and the promise or the part of the terms it is in. */
@Retention(RetentionPolicy.RUNTIME)
@interface Says {
    String in();

    String text();
}
